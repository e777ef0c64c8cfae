/-! BLOCKS, printed by a program of ours: what each stretch of a method asks -/
theorem B_X6_isDivisor_0 {g : PG} {d : Nat} {σ : PS} {Q : Int → PS → Prop}  (w : XX g true d P_X8_kind 0 [(2, 1)] [] 136 σ 136 (fun r2 σ1 => ((r2 = 1 → XX g true d P_X8_number 0 [(2, 1)] [] 136 σ1 136 (fun r4 σ3 => ((r4 ≠ 0 → Q 1 σ3) ∧ (r4 = 0 → XX g true d P_X6_stop 0 [(2, 6), (0, 2)] [] 136 σ3 136 (fun r6 σ5 => ((r6 = 0 → Q 0 σ5) ∧ (r6 ≠ 0 → Q 1 σ5))))))) ∧ (r2 ≠ 1 → XX g true d P_X6_stop 0 [(2, 6), (0, 1)] [] 136 σ1 136 (fun r8 σ7 => (r8 = 0 ∨ r8 = 1) ∧ Q r8 σ7))))) : XX g true (d + 1) P_X6_isDivisor 0 [(2, 6)] [] 136 σ 136 Q := by
  refine E_aload_n 1 dX6_isDivisor_0 rfl (ac_6.bnd) rfl ?_
  refine E_getL 4 dX6_isDivisor_1 fl_X6_25 ac_6 rfl (by decide) lay_6_0 rfl ?_
  refine E_callV (as := []) 7 dX6_isDivisor_4 cf_X8_kind mw_666 mw_667 mw_668 ac_1 (by decide) cl_X8 rfl rfl (Nat.le_of_ble_eq_true rfl) (Nat.le_of_ble_eq_true rfl) ⟨Nat.le_refl _, Nat.le_refl _⟩ rfl (w.mono (fun r2 σ1 w => ?_))
  show XX g true (d + 1) P_X6_isDivisor 7 [(2, 6)] [(0, r2)] 136 σ1 136 Q
  refine E_iconst 8 dX6_isDivisor_7 (by decide) rfl ?_
  refine E_icmp_eq 11 17 dX6_isDivisor_8 rfl rfl (fun h => ?_) (fun h => ?_)
  · have w := w.1 h
    refine E_aload_n 18 dX6_isDivisor_17 rfl (ac_6.bnd) rfl ?_
    refine E_getL 21 dX6_isDivisor_18 fl_X6_25 ac_6 rfl (by decide) lay_6_0 rfl ?_
    refine E_callV (as := []) 24 dX6_isDivisor_21 cf_X8_number mw_701 mw_702 mw_703 ac_1 (by decide) cl_X8 rfl rfl (Nat.le_of_ble_eq_true rfl) (Nat.le_of_ble_eq_true rfl) ⟨Nat.le_refl _, Nat.le_refl _⟩ rfl (w.mono (fun r4 σ3 w => ?_))
    show XX g true (d + 1) P_X6_isDivisor 24 [(2, 6)] [(0, r4)] 136 σ3 136 Q
    refine E_if_ne 27 35 dX6_isDivisor_24 rfl rfl (fun h => ?_) (fun h => ?_)
    · have w := w.1 h
      refine E_iconst 36 dX6_isDivisor_35 (by decide) rfl ?_
      refine E_goto 40 dX6_isDivisor_36 rfl ?_
      exact E_zret dX6_isDivisor_40 rfl rfl (Or.inr rfl) w
    · have w := w.2 h
      refine E_aload_n 28 dX6_isDivisor_27 rfl (ac_6.bnd) rfl ?_
      refine E_iconst 29 dX6_isDivisor_28 (by decide) rfl ?_
      refine E_callV (as := [(0, 2)]) 32 dX6_isDivisor_29 cf_X6_stop mw_674 mw_676 mw_6 ac_6 (by decide) cl_X6 rfl rfl (Nat.le_of_ble_eq_true rfl) (Nat.le_of_ble_eq_true rfl) ⟨Nat.le_refl _, Nat.le_refl _⟩ rfl (w.mono (fun r6 σ5 w => ?_))
      show XX g true (d + 1) P_X6_isDivisor 32 [(2, 6)] [(0, r6)] 136 σ5 136 Q
      refine E_if_eq 35 39 dX6_isDivisor_32 rfl rfl (fun h => ?_) (fun h => ?_)
      · have w := w.1 h
        refine E_iconst 40 dX6_isDivisor_39 (by decide) rfl ?_
        exact E_zret dX6_isDivisor_40 rfl rfl (Or.inl rfl) w
      · have w := w.2 h
        refine E_iconst 36 dX6_isDivisor_35 (by decide) rfl ?_
        refine E_goto 40 dX6_isDivisor_36 rfl ?_
        exact E_zret dX6_isDivisor_40 rfl rfl (Or.inr rfl) w
  · have w := w.2 h
    refine E_aload_n 12 dX6_isDivisor_11 rfl (ac_6.bnd) rfl ?_
    refine E_iconst 13 dX6_isDivisor_12 (by decide) rfl ?_
    refine E_callV (as := [(0, 1)]) 16 dX6_isDivisor_13 cf_X6_stop mw_674 mw_676 mw_6 ac_6 (by decide) cl_X6 rfl rfl (Nat.le_of_ble_eq_true rfl) (Nat.le_of_ble_eq_true rfl) ⟨Nat.le_refl _, Nat.le_refl _⟩ rfl (w.mono (fun r8 σ7 w => ?_))
    show XX g true (d + 1) P_X6_isDivisor 16 [(2, 6)] [(0, r8)] 136 σ7 136 Q
    obtain ⟨c9, w⟩ := w
    exact E_zret dX6_isDivisor_16 rfl rfl c9 w
theorem B_X6_readUnit_0 {g : PG} {d : Nat} {σ : PS} {Q : Int → PS → Prop}  (w : XX g true d P_X8_kind 0 [(2, 1)] [] 136 σ 136 (fun r2 σ1 => ((r2 ≠ 1 → XX g true d P_X8_kind 0 [(2, 1)] [] 136 σ1 136 (fun r4 σ3 => XX g true d P_X6_isName 0 [(2, 6), (0, r4)] [] 136 σ3 136 (fun r6 σ5 => ((r6 = 0 → XX g true d P_X6_stop 0 [(2, 6), (0, 1)] [] 136 σ5 136 (fun r8 σ7 => (r8 = 0 ∨ r8 = 1) ∧ Q r8 σ7)) ∧ (r6 ≠ 0 → XX g true d P_X8_kind 0 [(2, 1)] [] 136 σ5 136 (fun r11 σ10 => XX g true d P_X4_put 0 [(2, 7), (0, w32 (-r11))] [] 136 σ10 136 (fun r13 σ12 => XX g true d P_X8_next 0 [(2, 1)] [] 136 σ12 136 (fun _ σ14 => Q 1 σ14)))))))) ∧ (r2 = 1 → XX g true d P_X8_number 0 [(2, 1)] [] 136 σ1 136 (fun r17 σ16 => XX g true d P_X4_put 0 [(2, 7), (0, r17)] [] 136 σ16 136 (fun r19 σ18 => XX g true d P_X8_next 0 [(2, 1)] [] 136 σ18 136 (fun _ σ20 => Q 1 σ20))))))) : XX g true (d + 1) P_X6_readUnit 0 [(2, 6)] [] 136 σ 136 Q := by
  refine E_aload_n 1 dX6_readUnit_0 rfl (ac_6.bnd) rfl ?_
  refine E_getL 4 dX6_readUnit_1 fl_X6_25 ac_6 rfl (by decide) lay_6_0 rfl ?_
  refine E_callV (as := []) 7 dX6_readUnit_4 cf_X8_kind mw_666 mw_667 mw_668 ac_1 (by decide) cl_X8 rfl rfl (Nat.le_of_ble_eq_true rfl) (Nat.le_of_ble_eq_true rfl) ⟨Nat.le_refl _, Nat.le_refl _⟩ rfl (w.mono (fun r2 σ1 w => ?_))
  show XX g true (d + 1) P_X6_readUnit 7 [(2, 6)] [(0, r2)] 136 σ1 136 Q
  refine E_iconst 8 dX6_readUnit_7 (by decide) rfl ?_
  refine E_icmp_ne 11 29 dX6_readUnit_8 rfl rfl (fun h => ?_) (fun h => ?_)
  · have w := w.1 h
    refine E_aload_n 30 dX6_readUnit_29 rfl (ac_6.bnd) rfl ?_
    refine E_aload_n 31 dX6_readUnit_30 rfl (ac_6.bnd) rfl ?_
    refine E_getL 34 dX6_readUnit_31 fl_X6_25 ac_6 rfl (by decide) lay_6_0 rfl ?_
    refine E_callV (as := []) 37 dX6_readUnit_34 cf_X8_kind mw_666 mw_667 mw_668 ac_1 (by decide) cl_X8 rfl rfl (Nat.le_of_ble_eq_true rfl) (Nat.le_of_ble_eq_true rfl) ⟨Nat.le_refl _, Nat.le_refl _⟩ rfl (w.mono (fun r4 σ3 w => ?_))
    show XX g true (d + 1) P_X6_readUnit 37 [(2, 6)] [(0, r4), (2, 6)] 136 σ3 136 Q
    refine E_callV (as := [(0, r4)]) 40 dX6_readUnit_37 cf_X6_isName mw_751 mw_753 mw_16 ac_6 (by decide) cl_X6 rfl rfl (Nat.le_of_ble_eq_true rfl) (Nat.le_of_ble_eq_true rfl) ⟨Nat.le_refl _, Nat.le_refl _⟩ rfl (w.mono (fun r6 σ5 w => ?_))
    show XX g true (d + 1) P_X6_readUnit 40 [(2, 6)] [(0, r6)] 136 σ5 136 Q
    refine E_if_eq 43 62 dX6_readUnit_40 rfl rfl (fun h => ?_) (fun h => ?_)
    · have w := w.1 h
      refine E_aload_n 63 dX6_readUnit_62 rfl (ac_6.bnd) rfl ?_
      refine E_iconst 64 dX6_readUnit_63 (by decide) rfl ?_
      refine E_callV (as := [(0, 1)]) 67 dX6_readUnit_64 cf_X6_stop mw_674 mw_676 mw_6 ac_6 (by decide) cl_X6 rfl rfl (Nat.le_of_ble_eq_true rfl) (Nat.le_of_ble_eq_true rfl) ⟨Nat.le_refl _, Nat.le_refl _⟩ rfl (w.mono (fun r8 σ7 w => ?_))
      show XX g true (d + 1) P_X6_readUnit 67 [(2, 6)] [(0, r8)] 136 σ7 136 Q
      obtain ⟨c9, w⟩ := w
      exact E_zret dX6_readUnit_67 rfl rfl c9 w
    · have w := w.2 h
      refine E_aload_n 44 dX6_readUnit_43 rfl (ac_6.bnd) rfl ?_
      refine E_getL 47 dX6_readUnit_44 fl_X6_12 ac_6 rfl (by decide) lay_6_1 rfl ?_
      refine E_aload_n 48 dX6_readUnit_47 rfl (ac_6.bnd) rfl ?_
      refine E_getL 51 dX6_readUnit_48 fl_X6_25 ac_6 rfl (by decide) lay_6_0 rfl ?_
      refine E_callV (as := []) 54 dX6_readUnit_51 cf_X8_kind mw_666 mw_667 mw_668 ac_1 (by decide) cl_X8 rfl rfl (Nat.le_of_ble_eq_true rfl) (Nat.le_of_ble_eq_true rfl) ⟨Nat.le_refl _, Nat.le_refl _⟩ rfl (w.mono (fun r11 σ10 w => ?_))
      show XX g true (d + 1) P_X6_readUnit 54 [(2, 6)] [(0, r11), (2, 7)] 136 σ10 136 Q
      refine E_ineg 55 dX6_readUnit_54 rfl ?_
      refine E_callV (as := [(0, w32 (-r11))]) 58 dX6_readUnit_55 cf_X4_put mw_747 mw_748 mw_749 ac_7 (by decide) cl_X4 rfl rfl (Nat.le_of_ble_eq_true rfl) (Nat.le_of_ble_eq_true rfl) ⟨Nat.le_refl _, Nat.le_refl _⟩ rfl (w.mono (fun r13 σ12 w => ?_))
      show XX g true (d + 1) P_X6_readUnit 58 [(2, 6)] [(0, r13)] 136 σ12 136 Q
      refine E_pop 59 dX6_readUnit_58 n01 rfl ?_
      refine E_goto 68 dX6_readUnit_59 rfl ?_
      refine E_aload_n 69 dX6_readUnit_68 rfl (ac_6.bnd) rfl ?_
      refine E_getL 72 dX6_readUnit_69 fl_X6_25 ac_6 rfl (by decide) lay_6_0 rfl ?_
      refine E_callV (as := []) 75 dX6_readUnit_72 cf_X8_next mw_678 mw_679 mw_680 ac_1 (by decide) cl_X8 rfl rfl (Nat.le_of_ble_eq_true rfl) (Nat.le_of_ble_eq_true rfl) ⟨Nat.le_refl _, Nat.le_refl _⟩ rfl (w.mono (fun r15 σ14 w => ?_))
      show XX g true (d + 1) P_X6_readUnit 75 [(2, 6)] [] 136 σ14 136 Q
      refine E_iconst 76 dX6_readUnit_75 (by decide) rfl ?_
      exact E_zret dX6_readUnit_76 rfl rfl (Or.inr rfl) w
  · have w := w.2 h
    refine E_aload_n 12 dX6_readUnit_11 rfl (ac_6.bnd) rfl ?_
    refine E_getL 15 dX6_readUnit_12 fl_X6_12 ac_6 rfl (by decide) lay_6_1 rfl ?_
    refine E_aload_n 16 dX6_readUnit_15 rfl (ac_6.bnd) rfl ?_
    refine E_getL 19 dX6_readUnit_16 fl_X6_25 ac_6 rfl (by decide) lay_6_0 rfl ?_
    refine E_callV (as := []) 22 dX6_readUnit_19 cf_X8_number mw_701 mw_702 mw_703 ac_1 (by decide) cl_X8 rfl rfl (Nat.le_of_ble_eq_true rfl) (Nat.le_of_ble_eq_true rfl) ⟨Nat.le_refl _, Nat.le_refl _⟩ rfl (w.mono (fun r17 σ16 w => ?_))
    show XX g true (d + 1) P_X6_readUnit 22 [(2, 6)] [(0, r17), (2, 7)] 136 σ16 136 Q
    refine E_callV (as := [(0, r17)]) 25 dX6_readUnit_22 cf_X4_put mw_747 mw_748 mw_749 ac_7 (by decide) cl_X4 rfl rfl (Nat.le_of_ble_eq_true rfl) (Nat.le_of_ble_eq_true rfl) ⟨Nat.le_refl _, Nat.le_refl _⟩ rfl (w.mono (fun r19 σ18 w => ?_))
    show XX g true (d + 1) P_X6_readUnit 25 [(2, 6)] [(0, r19)] 136 σ18 136 Q
    refine E_pop 26 dX6_readUnit_25 n01 rfl ?_
    refine E_goto 68 dX6_readUnit_26 rfl ?_
    refine E_aload_n 69 dX6_readUnit_68 rfl (ac_6.bnd) rfl ?_
    refine E_getL 72 dX6_readUnit_69 fl_X6_25 ac_6 rfl (by decide) lay_6_0 rfl ?_
    refine E_callV (as := []) 75 dX6_readUnit_72 cf_X8_next mw_678 mw_679 mw_680 ac_1 (by decide) cl_X8 rfl rfl (Nat.le_of_ble_eq_true rfl) (Nat.le_of_ble_eq_true rfl) ⟨Nat.le_refl _, Nat.le_refl _⟩ rfl (w.mono (fun r21 σ20 w => ?_))
    show XX g true (d + 1) P_X6_readUnit 75 [(2, 6)] [] 136 σ20 136 Q
    refine E_iconst 76 dX6_readUnit_75 (by decide) rfl ?_
    exact E_zret dX6_readUnit_76 rfl rfl (Or.inr rfl) w
theorem B_X6_isName_0 {g : PG} {d : Nat} {σ : PS} {Q : Int → PS → Prop} {x1 : Int}  (w : ((σ 6 5 = 0 → ((x1 ≤ 262 → Q 0 σ) ∧ (262 < x1 → ((273 < x1 → Q 0 σ) ∧ (x1 ≤ 273 → ((x1 = 268 → Q 0 σ) ∧ (x1 ≠ 268 → ((x1 = 270 → Q 0 σ) ∧ (x1 ≠ 270 → Q 1 σ))))))))) ∧ (σ 6 5 ≠ 0 → ((x1 < 262 → Q 0 σ) ∧ (262 ≤ x1 → ((270 < x1 → Q 0 σ) ∧ (x1 ≤ 270 → Q 1 σ))))))) : XX g true d P_X6_isName 0 [(2, 6), (0, x1)] [] 136 σ 136 Q := by
  refine E_aload_n 1 dX6_isName_0 rfl (ac_6.bnd) rfl ?_
  refine E_get 5 4 dX6_isName_1 fl_X6_32 ac_6 rfl (by decide) rfl rfl ?_
  refine E_if_eq 7 27 dX6_isName_4 rfl rfl (fun h => ?_) (fun h => ?_)
  · have w := w.1 h
    refine E_iload_n 28 dX6_isName_27 rfl rfl ?_
    refine E_sipush 31 dX6_isName_28 (by decide) rfl ?_
    refine E_icmp_le 34 59 dX6_isName_31 rfl rfl (fun h => ?_) (fun h => ?_)
    · have w := w.1 h
      refine E_iconst 60 dX6_isName_59 (by decide) rfl ?_
      exact E_zret dX6_isName_60 rfl rfl (Or.inl rfl) w
    · have w := w.2 h
      refine E_iload_n 35 dX6_isName_34 rfl rfl ?_
      refine E_sipush 38 dX6_isName_35 (by decide) rfl ?_
      refine E_icmp_gt 41 59 dX6_isName_38 rfl rfl (fun h => ?_) (fun h => ?_)
      · have w := w.1 h
        refine E_iconst 60 dX6_isName_59 (by decide) rfl ?_
        exact E_zret dX6_isName_60 rfl rfl (Or.inl rfl) w
      · have w := w.2 h
        refine E_iload_n 42 dX6_isName_41 rfl rfl ?_
        refine E_sipush 45 dX6_isName_42 (by decide) rfl ?_
        refine E_icmp_eq 48 59 dX6_isName_45 rfl rfl (fun h => ?_) (fun h => ?_)
        · have w := w.1 h
          refine E_iconst 60 dX6_isName_59 (by decide) rfl ?_
          exact E_zret dX6_isName_60 rfl rfl (Or.inl rfl) w
        · have w := w.2 h
          refine E_iload_n 49 dX6_isName_48 rfl rfl ?_
          refine E_sipush 52 dX6_isName_49 (by decide) rfl ?_
          refine E_icmp_eq 55 59 dX6_isName_52 rfl rfl (fun h => ?_) (fun h => ?_)
          · have w := w.1 h
            refine E_iconst 60 dX6_isName_59 (by decide) rfl ?_
            exact E_zret dX6_isName_60 rfl rfl (Or.inl rfl) w
          · have w := w.2 h
            refine E_iconst 56 dX6_isName_55 (by decide) rfl ?_
            refine E_goto 60 dX6_isName_56 rfl ?_
            exact E_zret dX6_isName_60 rfl rfl (Or.inr rfl) w
  · have w := w.2 h
    refine E_iload_n 8 dX6_isName_7 rfl rfl ?_
    refine E_sipush 11 dX6_isName_8 (by decide) rfl ?_
    refine E_icmp_lt 14 25 dX6_isName_11 rfl rfl (fun h => ?_) (fun h => ?_)
    · have w := w.1 h
      refine E_iconst 26 dX6_isName_25 (by decide) rfl ?_
      exact E_zret dX6_isName_26 rfl rfl (Or.inl rfl) w
    · have w := w.2 h
      refine E_iload_n 15 dX6_isName_14 rfl rfl ?_
      refine E_sipush 18 dX6_isName_15 (by decide) rfl ?_
      refine E_icmp_gt 21 25 dX6_isName_18 rfl rfl (fun h => ?_) (fun h => ?_)
      · have w := w.1 h
        refine E_iconst 26 dX6_isName_25 (by decide) rfl ?_
        exact E_zret dX6_isName_26 rfl rfl (Or.inl rfl) w
      · have w := w.2 h
        refine E_iconst 22 dX6_isName_21 (by decide) rfl ?_
        refine E_goto 26 dX6_isName_22 rfl ?_
        exact E_zret dX6_isName_26 rfl rfl (Or.inr rfl) w
theorem B_X6_readOr_0 {g : PG} {d : Nat} {σ : PS} {Q : Int → PS → Prop} {x1 : Int}  (w : XX g true d P_X6_readAnd 0 [(2, 6), (0, x1), (9, 0), (9, 0)] [] 136 σ 136 (fun r2 σ1 => (XX g true (d + 1) P_X6_readOr 8 [(2, 6), (0, x1), (0, r2), (0, 0)] [] 136 σ1 136 Q))) : XX g true (d + 1) P_X6_readOr 0 [(2, 6), (0, x1), (9, 0), (9, 0)] [] 136 σ 136 Q := by
  refine E_aload_n 1 dX6_readOr_0 rfl (ac_6.bnd) rfl ?_
  refine E_iload_n 2 dX6_readOr_1 rfl rfl ?_
  refine E_callV (as := [(0, x1)]) 5 dX6_readOr_2 cf_X6_readAnd mw_767 mw_769 mw_19 ac_6 (by decide) cl_X6 rfl rfl (Nat.le_of_ble_eq_true rfl) (Nat.le_of_ble_eq_true rfl) ⟨Nat.le_refl _, Nat.le_refl _⟩ rfl (w.mono (fun r2 σ1 w => ?_))
  show XX g true (d + 1) P_X6_readOr 5 [(2, 6), (0, x1), (9, 0), (9, 0)] [(0, r2)] 136 σ1 136 Q
  refine E_istore_n (ls' := [(2, 6), (0, x1), (0, r2), (9, 0)]) 6 dX6_readOr_5 (by decide) rfl rfl ?_
  refine E_iconst 7 dX6_readOr_6 (by decide) rfl ?_
  refine E_istore_n (ls' := [(2, 6), (0, x1), (0, r2), (0, 0)]) 8 dX6_readOr_7 (by decide) rfl rfl ?_
  with_reducible exact w
theorem B_X6_readOr_8 {g : PG} {d : Nat} {σ : PS} {Q : Int → PS → Prop} {x1 x2 x3 : Int}  (w : ((500 ≤ x3 → (x2 = 0 ∨ x2 = 1) ∧ Q x2 σ) ∧ (x3 < 500 → ((x2 = 0 → (x2 = 0 ∨ x2 = 1) ∧ Q x2 σ) ∧ (x2 ≠ 0 → XX g true d P_X8_kind 0 [(2, 1)] [] 136 σ 136 (fun r4 σ3 => ((r4 ≠ 260 → (x2 = 0 ∨ x2 = 1) ∧ Q x2 σ3) ∧ (r4 = 260 → XX g true d P_X8_next 0 [(2, 1)] [] 136 σ3 136 (fun _ σ6 => XX g true d P_X6_readAnd 0 [(2, 6), (0, x1), (9, 0), (9, 0)] [] 136 σ6 136 (fun r9 σ8 => ((r9 = 0 → (XX g true (d + 1) P_X6_readOr 8 [(2, 6), (0, x1), (0, 0), (0, w32 (x3 + 1))] [] 136 σ8 136 Q)) ∧ (r9 ≠ 0 → XX g true d P_X4_put 0 [(2, 7), (0, (-260))] [] 136 σ8 136 (fun r11 σ10 => ((r11 = 0 → (XX g true (d + 1) P_X6_readOr 8 [(2, 6), (0, x1), (0, 0), (0, w32 (x3 + 1))] [] 136 σ10 136 Q)) ∧ (r11 ≠ 0 → (XX g true (d + 1) P_X6_readOr 8 [(2, 6), (0, x1), (0, 1), (0, w32 (x3 + 1))] [] 136 σ10 136 Q)))))))))))))))) : XX g true (d + 1) P_X6_readOr 8 [(2, 6), (0, x1), (0, x2), (0, x3)] [] 136 σ 136 Q := by
  refine E_iload_n 9 dX6_readOr_8 rfl rfl ?_
  refine E_sipush 12 dX6_readOr_9 (by decide) rfl ?_
  refine E_icmp_ge 15 72 dX6_readOr_12 rfl rfl (fun h => ?_) (fun h => ?_)
  · have w := w.1 h
    refine E_iload_n 73 dX6_readOr_72 rfl rfl ?_
    obtain ⟨c1, w⟩ := w
    exact E_zret dX6_readOr_73 rfl rfl c1 w
  · have w := w.2 h
    refine E_iload_n 16 dX6_readOr_15 rfl rfl ?_
    refine E_if_eq 19 72 dX6_readOr_16 rfl rfl (fun h => ?_) (fun h => ?_)
    · have w := w.1 h
      refine E_iload_n 73 dX6_readOr_72 rfl rfl ?_
      obtain ⟨c2, w⟩ := w
      exact E_zret dX6_readOr_73 rfl rfl c2 w
    · have w := w.2 h
      refine E_aload_n 20 dX6_readOr_19 rfl (ac_6.bnd) rfl ?_
      refine E_getL 23 dX6_readOr_20 fl_X6_25 ac_6 rfl (by decide) lay_6_0 rfl ?_
      refine E_callV (as := []) 26 dX6_readOr_23 cf_X8_kind mw_666 mw_667 mw_668 ac_1 (by decide) cl_X8 rfl rfl (Nat.le_of_ble_eq_true rfl) (Nat.le_of_ble_eq_true rfl) ⟨Nat.le_refl _, Nat.le_refl _⟩ rfl (w.mono (fun r4 σ3 w => ?_))
      show XX g true (d + 1) P_X6_readOr 26 [(2, 6), (0, x1), (0, x2), (0, x3)] [(0, r4)] 136 σ3 136 Q
      refine E_sipush 29 dX6_readOr_26 (by decide) rfl ?_
      refine E_icmp_ne 32 72 dX6_readOr_29 rfl rfl (fun h => ?_) (fun h => ?_)
      · have w := w.1 h
        refine E_iload_n 73 dX6_readOr_72 rfl rfl ?_
        obtain ⟨c5, w⟩ := w
        exact E_zret dX6_readOr_73 rfl rfl c5 w
      · have w := w.2 h
        refine E_aload_n 33 dX6_readOr_32 rfl (ac_6.bnd) rfl ?_
        refine E_getL 36 dX6_readOr_33 fl_X6_25 ac_6 rfl (by decide) lay_6_0 rfl ?_
        refine E_callV (as := []) 39 dX6_readOr_36 cf_X8_next mw_678 mw_679 mw_680 ac_1 (by decide) cl_X8 rfl rfl (Nat.le_of_ble_eq_true rfl) (Nat.le_of_ble_eq_true rfl) ⟨Nat.le_refl _, Nat.le_refl _⟩ rfl (w.mono (fun r7 σ6 w => ?_))
        show XX g true (d + 1) P_X6_readOr 39 [(2, 6), (0, x1), (0, x2), (0, x3)] [] 136 σ6 136 Q
        refine E_aload_n 40 dX6_readOr_39 rfl (ac_6.bnd) rfl ?_
        refine E_iload_n 41 dX6_readOr_40 rfl rfl ?_
        refine E_callV (as := [(0, x1)]) 44 dX6_readOr_41 cf_X6_readAnd mw_767 mw_769 mw_19 ac_6 (by decide) cl_X6 rfl rfl (Nat.le_of_ble_eq_true rfl) (Nat.le_of_ble_eq_true rfl) ⟨Nat.le_refl _, Nat.le_refl _⟩ rfl (w.mono (fun r9 σ8 w => ?_))
        show XX g true (d + 1) P_X6_readOr 44 [(2, 6), (0, x1), (0, x2), (0, x3)] [(0, r9)] 136 σ8 136 Q
        refine E_if_eq 47 64 dX6_readOr_44 rfl rfl (fun h => ?_) (fun h => ?_)
        · have w := w.1 h
          refine E_iconst 65 dX6_readOr_64 (by decide) rfl ?_
          refine E_istore_n (ls' := [(2, 6), (0, x1), (0, 0), (0, x3)]) 66 dX6_readOr_65 (by decide) rfl rfl ?_
          refine E_iinc (ls' := [(2, 6), (0, x1), (0, 0), (0, w32 (x3 + 1))]) 69 dX6_readOr_66 (by decide) rfl rfl rfl ?_
          refine E_goto 8 dX6_readOr_69 rfl ?_
          with_reducible exact w
        · have w := w.2 h
          refine E_aload_n 48 dX6_readOr_47 rfl (ac_6.bnd) rfl ?_
          refine E_getL 51 dX6_readOr_48 fl_X6_12 ac_6 rfl (by decide) lay_6_1 rfl ?_
          refine E_sipush 54 dX6_readOr_51 (by decide) rfl ?_
          refine E_callV (as := [(0, (-260))]) 57 dX6_readOr_54 cf_X4_put mw_747 mw_748 mw_749 ac_7 (by decide) cl_X4 rfl rfl (Nat.le_of_ble_eq_true rfl) (Nat.le_of_ble_eq_true rfl) ⟨Nat.le_refl _, Nat.le_refl _⟩ rfl (w.mono (fun r11 σ10 w => ?_))
          show XX g true (d + 1) P_X6_readOr 57 [(2, 6), (0, x1), (0, x2), (0, x3)] [(0, r11)] 136 σ10 136 Q
          refine E_if_eq 60 64 dX6_readOr_57 rfl rfl (fun h => ?_) (fun h => ?_)
          · have w := w.1 h
            refine E_iconst 65 dX6_readOr_64 (by decide) rfl ?_
            refine E_istore_n (ls' := [(2, 6), (0, x1), (0, 0), (0, x3)]) 66 dX6_readOr_65 (by decide) rfl rfl ?_
            refine E_iinc (ls' := [(2, 6), (0, x1), (0, 0), (0, w32 (x3 + 1))]) 69 dX6_readOr_66 (by decide) rfl rfl rfl ?_
            refine E_goto 8 dX6_readOr_69 rfl ?_
            with_reducible exact w
          · have w := w.2 h
            refine E_iconst 61 dX6_readOr_60 (by decide) rfl ?_
            refine E_goto 65 dX6_readOr_61 rfl ?_
            refine E_istore_n (ls' := [(2, 6), (0, x1), (0, 1), (0, x3)]) 66 dX6_readOr_65 (by decide) rfl rfl ?_
            refine E_iinc (ls' := [(2, 6), (0, x1), (0, 1), (0, w32 (x3 + 1))]) 69 dX6_readOr_66 (by decide) rfl rfl rfl ?_
            refine E_goto 8 dX6_readOr_69 rfl ?_
            with_reducible exact w
theorem B_X6_readAnd_0 {g : PG} {d : Nat} {σ : PS} {Q : Int → PS → Prop} {x1 : Int}  (w : XX g true d P_X6_readClause 0 [(2, 6), (0, x1), (9, 0), (9, 0), (9, 0)] [] 136 σ 136 (fun r2 σ1 => (XX g true (d + 1) P_X6_readAnd 8 [(2, 6), (0, x1), (0, r2), (0, 0)] [] 136 σ1 136 Q))) : XX g true (d + 1) P_X6_readAnd 0 [(2, 6), (0, x1), (9, 0), (9, 0)] [] 136 σ 136 Q := by
  refine E_aload_n 1 dX6_readAnd_0 rfl (ac_6.bnd) rfl ?_
  refine E_iload_n 2 dX6_readAnd_1 rfl rfl ?_
  refine E_callV (as := [(0, x1)]) 5 dX6_readAnd_2 cf_X6_readClause mw_771 mw_773 mw_20 ac_6 (by decide) cl_X6 rfl rfl (Nat.le_of_ble_eq_true rfl) (Nat.le_of_ble_eq_true rfl) ⟨Nat.le_refl _, Nat.le_refl _⟩ rfl (w.mono (fun r2 σ1 w => ?_))
  show XX g true (d + 1) P_X6_readAnd 5 [(2, 6), (0, x1), (9, 0), (9, 0)] [(0, r2)] 136 σ1 136 Q
  refine E_istore_n (ls' := [(2, 6), (0, x1), (0, r2), (9, 0)]) 6 dX6_readAnd_5 (by decide) rfl rfl ?_
  refine E_iconst 7 dX6_readAnd_6 (by decide) rfl ?_
  refine E_istore_n (ls' := [(2, 6), (0, x1), (0, r2), (0, 0)]) 8 dX6_readAnd_7 (by decide) rfl rfl ?_
  with_reducible exact w
theorem B_X6_readAnd_8 {g : PG} {d : Nat} {σ : PS} {Q : Int → PS → Prop} {x1 x2 x3 : Int}  (w : ((500 ≤ x3 → (x2 = 0 ∨ x2 = 1) ∧ Q x2 σ) ∧ (x3 < 500 → ((x2 = 0 → (x2 = 0 ∨ x2 = 1) ∧ Q x2 σ) ∧ (x2 ≠ 0 → XX g true d P_X8_kind 0 [(2, 1)] [] 136 σ 136 (fun r4 σ3 => ((r4 ≠ 259 → (x2 = 0 ∨ x2 = 1) ∧ Q x2 σ3) ∧ (r4 = 259 → XX g true d P_X8_next 0 [(2, 1)] [] 136 σ3 136 (fun _ σ6 => XX g true d P_X6_readClause 0 [(2, 6), (0, x1), (9, 0), (9, 0), (9, 0)] [] 136 σ6 136 (fun r9 σ8 => ((r9 = 0 → (XX g true (d + 1) P_X6_readAnd 8 [(2, 6), (0, x1), (0, 0), (0, w32 (x3 + 1))] [] 136 σ8 136 Q)) ∧ (r9 ≠ 0 → XX g true d P_X4_put 0 [(2, 7), (0, (-259))] [] 136 σ8 136 (fun r11 σ10 => ((r11 = 0 → (XX g true (d + 1) P_X6_readAnd 8 [(2, 6), (0, x1), (0, 0), (0, w32 (x3 + 1))] [] 136 σ10 136 Q)) ∧ (r11 ≠ 0 → (XX g true (d + 1) P_X6_readAnd 8 [(2, 6), (0, x1), (0, 1), (0, w32 (x3 + 1))] [] 136 σ10 136 Q)))))))))))))))) : XX g true (d + 1) P_X6_readAnd 8 [(2, 6), (0, x1), (0, x2), (0, x3)] [] 136 σ 136 Q := by
  refine E_iload_n 9 dX6_readAnd_8 rfl rfl ?_
  refine E_sipush 12 dX6_readAnd_9 (by decide) rfl ?_
  refine E_icmp_ge 15 72 dX6_readAnd_12 rfl rfl (fun h => ?_) (fun h => ?_)
  · have w := w.1 h
    refine E_iload_n 73 dX6_readAnd_72 rfl rfl ?_
    obtain ⟨c1, w⟩ := w
    exact E_zret dX6_readAnd_73 rfl rfl c1 w
  · have w := w.2 h
    refine E_iload_n 16 dX6_readAnd_15 rfl rfl ?_
    refine E_if_eq 19 72 dX6_readAnd_16 rfl rfl (fun h => ?_) (fun h => ?_)
    · have w := w.1 h
      refine E_iload_n 73 dX6_readAnd_72 rfl rfl ?_
      obtain ⟨c2, w⟩ := w
      exact E_zret dX6_readAnd_73 rfl rfl c2 w
    · have w := w.2 h
      refine E_aload_n 20 dX6_readAnd_19 rfl (ac_6.bnd) rfl ?_
      refine E_getL 23 dX6_readAnd_20 fl_X6_25 ac_6 rfl (by decide) lay_6_0 rfl ?_
      refine E_callV (as := []) 26 dX6_readAnd_23 cf_X8_kind mw_666 mw_667 mw_668 ac_1 (by decide) cl_X8 rfl rfl (Nat.le_of_ble_eq_true rfl) (Nat.le_of_ble_eq_true rfl) ⟨Nat.le_refl _, Nat.le_refl _⟩ rfl (w.mono (fun r4 σ3 w => ?_))
      show XX g true (d + 1) P_X6_readAnd 26 [(2, 6), (0, x1), (0, x2), (0, x3)] [(0, r4)] 136 σ3 136 Q
      refine E_sipush 29 dX6_readAnd_26 (by decide) rfl ?_
      refine E_icmp_ne 32 72 dX6_readAnd_29 rfl rfl (fun h => ?_) (fun h => ?_)
      · have w := w.1 h
        refine E_iload_n 73 dX6_readAnd_72 rfl rfl ?_
        obtain ⟨c5, w⟩ := w
        exact E_zret dX6_readAnd_73 rfl rfl c5 w
      · have w := w.2 h
        refine E_aload_n 33 dX6_readAnd_32 rfl (ac_6.bnd) rfl ?_
        refine E_getL 36 dX6_readAnd_33 fl_X6_25 ac_6 rfl (by decide) lay_6_0 rfl ?_
        refine E_callV (as := []) 39 dX6_readAnd_36 cf_X8_next mw_678 mw_679 mw_680 ac_1 (by decide) cl_X8 rfl rfl (Nat.le_of_ble_eq_true rfl) (Nat.le_of_ble_eq_true rfl) ⟨Nat.le_refl _, Nat.le_refl _⟩ rfl (w.mono (fun r7 σ6 w => ?_))
        show XX g true (d + 1) P_X6_readAnd 39 [(2, 6), (0, x1), (0, x2), (0, x3)] [] 136 σ6 136 Q
        refine E_aload_n 40 dX6_readAnd_39 rfl (ac_6.bnd) rfl ?_
        refine E_iload_n 41 dX6_readAnd_40 rfl rfl ?_
        refine E_callV (as := [(0, x1)]) 44 dX6_readAnd_41 cf_X6_readClause mw_771 mw_773 mw_20 ac_6 (by decide) cl_X6 rfl rfl (Nat.le_of_ble_eq_true rfl) (Nat.le_of_ble_eq_true rfl) ⟨Nat.le_refl _, Nat.le_refl _⟩ rfl (w.mono (fun r9 σ8 w => ?_))
        show XX g true (d + 1) P_X6_readAnd 44 [(2, 6), (0, x1), (0, x2), (0, x3)] [(0, r9)] 136 σ8 136 Q
        refine E_if_eq 47 64 dX6_readAnd_44 rfl rfl (fun h => ?_) (fun h => ?_)
        · have w := w.1 h
          refine E_iconst 65 dX6_readAnd_64 (by decide) rfl ?_
          refine E_istore_n (ls' := [(2, 6), (0, x1), (0, 0), (0, x3)]) 66 dX6_readAnd_65 (by decide) rfl rfl ?_
          refine E_iinc (ls' := [(2, 6), (0, x1), (0, 0), (0, w32 (x3 + 1))]) 69 dX6_readAnd_66 (by decide) rfl rfl rfl ?_
          refine E_goto 8 dX6_readAnd_69 rfl ?_
          with_reducible exact w
        · have w := w.2 h
          refine E_aload_n 48 dX6_readAnd_47 rfl (ac_6.bnd) rfl ?_
          refine E_getL 51 dX6_readAnd_48 fl_X6_12 ac_6 rfl (by decide) lay_6_1 rfl ?_
          refine E_sipush 54 dX6_readAnd_51 (by decide) rfl ?_
          refine E_callV (as := [(0, (-259))]) 57 dX6_readAnd_54 cf_X4_put mw_747 mw_748 mw_749 ac_7 (by decide) cl_X4 rfl rfl (Nat.le_of_ble_eq_true rfl) (Nat.le_of_ble_eq_true rfl) ⟨Nat.le_refl _, Nat.le_refl _⟩ rfl (w.mono (fun r11 σ10 w => ?_))
          show XX g true (d + 1) P_X6_readAnd 57 [(2, 6), (0, x1), (0, x2), (0, x3)] [(0, r11)] 136 σ10 136 Q
          refine E_if_eq 60 64 dX6_readAnd_57 rfl rfl (fun h => ?_) (fun h => ?_)
          · have w := w.1 h
            refine E_iconst 65 dX6_readAnd_64 (by decide) rfl ?_
            refine E_istore_n (ls' := [(2, 6), (0, x1), (0, 0), (0, x3)]) 66 dX6_readAnd_65 (by decide) rfl rfl ?_
            refine E_iinc (ls' := [(2, 6), (0, x1), (0, 0), (0, w32 (x3 + 1))]) 69 dX6_readAnd_66 (by decide) rfl rfl rfl ?_
            refine E_goto 8 dX6_readAnd_69 rfl ?_
            with_reducible exact w
          · have w := w.2 h
            refine E_iconst 61 dX6_readAnd_60 (by decide) rfl ?_
            refine E_goto 65 dX6_readAnd_61 rfl ?_
            refine E_istore_n (ls' := [(2, 6), (0, x1), (0, 1), (0, x3)]) 66 dX6_readAnd_65 (by decide) rfl rfl ?_
            refine E_iinc (ls' := [(2, 6), (0, x1), (0, 1), (0, w32 (x3 + 1))]) 69 dX6_readAnd_66 (by decide) rfl rfl rfl ?_
            refine E_goto 8 dX6_readAnd_69 rfl ?_
            with_reducible exact w
theorem B_X6_readClause_0 {g : PG} {d : Nat} {σ : PS} {Q : Int → PS → Prop} {x1 : Int}  (w : XX g true d P_X8_kind 0 [(2, 1)] [] 136 σ 136 (fun r2 σ1 => ((r2 = 261 → (XX g true (d + 1) P_X6_readClause 21 [(2, 6), (0, x1), (0, r2), (9, 0), (9, 0)] [] 136 σ1 136 Q)) ∧ (r2 ≠ 261 → ((r2 ≠ 40 → (XX g true (d + 1) P_X6_readClause 27 [(2, 6), (0, x1), (0, r2), (0, 0), (9, 0)] [] 136 σ1 136 Q)) ∧ (r2 = 40 → (XX g true (d + 1) P_X6_readClause 21 [(2, 6), (0, x1), (0, r2), (9, 0), (9, 0)] [] 136 σ1 136 Q))))))) : XX g true (d + 1) P_X6_readClause 0 [(2, 6), (0, x1), (9, 0), (9, 0), (9, 0)] [] 136 σ 136 Q := by
  refine E_aload_n 1 dX6_readClause_0 rfl (ac_6.bnd) rfl ?_
  refine E_getL 4 dX6_readClause_1 fl_X6_25 ac_6 rfl (by decide) lay_6_0 rfl ?_
  refine E_callV (as := []) 7 dX6_readClause_4 cf_X8_kind mw_666 mw_667 mw_668 ac_1 (by decide) cl_X8 rfl rfl (Nat.le_of_ble_eq_true rfl) (Nat.le_of_ble_eq_true rfl) ⟨Nat.le_refl _, Nat.le_refl _⟩ rfl (w.mono (fun r2 σ1 w => ?_))
  show XX g true (d + 1) P_X6_readClause 7 [(2, 6), (0, x1), (9, 0), (9, 0), (9, 0)] [(0, r2)] 136 σ1 136 Q
  refine E_istore_n (ls' := [(2, 6), (0, x1), (0, r2), (9, 0), (9, 0)]) 8 dX6_readClause_7 (by decide) rfl rfl ?_
  refine E_iload_n 9 dX6_readClause_8 rfl rfl ?_
  refine E_sipush 12 dX6_readClause_9 (by decide) rfl ?_
  refine E_icmp_eq 15 21 dX6_readClause_12 rfl rfl (fun h => ?_) (fun h => ?_)
  · have w := w.1 h
    with_reducible exact w
  · have w := w.2 h
    refine E_iload_n 16 dX6_readClause_15 rfl rfl ?_
    refine E_bipush 18 dX6_readClause_16 (by decide) rfl ?_
    refine E_icmp_ne 21 25 dX6_readClause_18 rfl rfl (fun h => ?_) (fun h => ?_)
    · have w := w.1 h
      refine E_iconst 26 dX6_readClause_25 (by decide) rfl ?_
      refine E_istore_n (ls' := [(2, 6), (0, x1), (0, r2), (0, 0), (9, 0)]) 27 dX6_readClause_26 (by decide) rfl rfl ?_
      with_reducible exact w
    · have w := w.2 h
      with_reducible exact w
theorem B_X6_readClause_21 {g : PG} {d : Nat} {σ : PS} {Q : Int → PS → Prop} {x1 x2 : Int}  (w : (XX g true (d + 1) P_X6_readClause 27 [(2, 6), (0, x1), (0, x2), (0, 1), (9, 0)] [] 136 σ 136 Q)) : XX g true (d + 1) P_X6_readClause 21 [(2, 6), (0, x1), (0, x2), (9, 0), (9, 0)] [] 136 σ 136 Q := by
  refine E_iconst 22 dX6_readClause_21 (by decide) rfl ?_
  refine E_goto 26 dX6_readClause_22 rfl ?_
  refine E_istore_n (ls' := [(2, 6), (0, x1), (0, x2), (0, 1), (9, 0)]) 27 dX6_readClause_26 (by decide) rfl rfl ?_
  with_reducible exact w
theorem B_X6_readClause_27 {g : PG} {d : Nat} {σ : PS} {Q : Int → PS → Prop} {x1 x2 x3 : Int}  (w : ((x3 = 0 → (XX g true (d + 1) P_X6_readClause 43 [(2, 6), (0, x1), (0, x2), (0, x3), (9, 0)] [] 136 σ 136 Q)) ∧ (x3 ≠ 0 → ((x1 < 8 → (XX g true (d + 1) P_X6_readClause 43 [(2, 6), (0, x1), (0, x2), (0, x3), (9, 0)] [] 136 σ 136 Q)) ∧ (8 ≤ x1 → XX g true d P_X6_stop 0 [(2, 6), (0, 3)] [] 136 σ 136 (fun r2 σ1 => (r2 = 0 ∨ r2 = 1) ∧ Q r2 σ1)))))) : XX g true (d + 1) P_X6_readClause 27 [(2, 6), (0, x1), (0, x2), (0, x3), (9, 0)] [] 136 σ 136 Q := by
  refine E_iload_n 28 dX6_readClause_27 rfl rfl ?_
  refine E_if_eq 31 43 dX6_readClause_28 rfl rfl (fun h => ?_) (fun h => ?_)
  · have w := w.1 h
    with_reducible exact w
  · have w := w.2 h
    refine E_iload_n 32 dX6_readClause_31 rfl rfl ?_
    refine E_bipush 34 dX6_readClause_32 (by decide) rfl ?_
    refine E_icmp_lt 37 43 dX6_readClause_34 rfl rfl (fun h => ?_) (fun h => ?_)
    · have w := w.1 h
      with_reducible exact w
    · have w := w.2 h
      refine E_aload_n 38 dX6_readClause_37 rfl (ac_6.bnd) rfl ?_
      refine E_iconst 39 dX6_readClause_38 (by decide) rfl ?_
      refine E_callV (as := [(0, 3)]) 42 dX6_readClause_39 cf_X6_stop mw_674 mw_676 mw_6 ac_6 (by decide) cl_X6 rfl rfl (Nat.le_of_ble_eq_true rfl) (Nat.le_of_ble_eq_true rfl) ⟨Nat.le_refl _, Nat.le_refl _⟩ rfl (w.mono (fun r2 σ1 w => ?_))
      show XX g true (d + 1) P_X6_readClause 42 [(2, 6), (0, x1), (0, x2), (0, x3), (9, 0)] [(0, r2)] 136 σ1 136 Q
      obtain ⟨c3, w⟩ := w
      exact E_zret dX6_readClause_42 rfl rfl c3 w
theorem B_X6_readClause_43 {g : PG} {d : Nat} {σ : PS} {Q : Int → PS → Prop} {x1 x2 x3 : Int}  (w : ((x3 = 0 → XX g true d P_X6_readSum 0 [(2, 6), (9, 0), (9, 0), (9, 0)] [] 136 σ 136 (fun r2 σ1 => ((r2 ≠ 0 → XX g true d P_X8_kind 0 [(2, 1)] [] 136 σ1 136 (fun r4 σ3 => ((r4 = 60 → (XX g true (d + 1) P_X6_readClause 161 [(2, 6), (9, 0), (9, 0), (9, 0), (0, r4)] [] 136 σ3 136 Q)) ∧ (r4 ≠ 60 → ((r4 = 61 → (XX g true (d + 1) P_X6_readClause 161 [(2, 6), (9, 0), (9, 0), (9, 0), (0, r4)] [] 136 σ3 136 Q)) ∧ (r4 ≠ 61 → ((r4 = 62 → (XX g true (d + 1) P_X6_readClause 161 [(2, 6), (9, 0), (9, 0), (9, 0), (0, r4)] [] 136 σ3 136 Q)) ∧ (r4 ≠ 62 → XX g true d P_X6_stop 0 [(2, 6), (0, 1)] [] 136 σ3 136 (fun r6 σ5 => (r6 = 0 ∨ r6 = 1) ∧ Q r6 σ5))))))))) ∧ (r2 = 0 → Q 0 σ1)))) ∧ (x3 ≠ 0 → XX g true d P_X8_next 0 [(2, 1)] [] 136 σ 136 (fun _ σ8 => ((x2 ≠ 40 → XX g true d P_X6_readClause 0 [(2, 6), (0, w32 (x1 + 1)), (9, 0), (9, 0), (9, 0)] [] 136 σ8 136 (fun r11 σ10 => ((r11 = 0 → (XX g true (d + 1) P_X6_readClause 114 [(9, 0), (9, 0), (9, 0), (9, 0), (9, 0)] [] 136 σ10 136 Q)) ∧ (r11 ≠ 0 → XX g true d P_X4_put 0 [(2, 7), (0, (-261))] [] 136 σ10 136 (fun r13 σ12 => ((r13 = 0 → (XX g true (d + 1) P_X6_readClause 114 [(9, 0), (9, 0), (9, 0), (9, 0), (9, 0)] [] 136 σ12 136 Q)) ∧ (r13 ≠ 0 → Q 1 σ12))))))) ∧ (x2 = 40 → XX g true d P_X6_readOr 0 [(2, 6), (0, w32 (x1 + 1)), (9, 0), (9, 0)] [] 136 σ8 136 (fun r15 σ14 => ((r15 = 0 → (XX g true (d + 1) P_X6_readClause 83 [(9, 0), (9, 0), (9, 0), (9, 0), (9, 0)] [] 136 σ14 136 Q)) ∧ (r15 ≠ 0 → XX g true d P_X6_pass 0 [(2, 6), (0, 41)] [] 136 σ14 136 (fun r17 σ16 => ((r17 = 0 → (XX g true (d + 1) P_X6_readClause 83 [(9, 0), (9, 0), (9, 0), (9, 0), (9, 0)] [] 136 σ16 136 Q)) ∧ (r17 ≠ 0 → Q 1 σ16)))))))))))) : XX g true (d + 1) P_X6_readClause 43 [(2, 6), (0, x1), (0, x2), (0, x3), (9, 0)] [] 136 σ 136 Q := by
  refine E_iload_n 44 dX6_readClause_43 rfl rfl ?_
  refine E_if_eq 47 116 dX6_readClause_44 rfl rfl (fun h => ?_) (fun h => ?_)
  · have w := w.1 h
    refine E_aload_n 117 dX6_readClause_116 rfl (ac_6.bnd) rfl ?_
    refine E_callV (as := []) 120 dX6_readClause_117 cf_X6_readSum mw_735 mw_737 mw_13 ac_6 (by decide) cl_X6 rfl rfl (Nat.le_of_ble_eq_true rfl) (Nat.le_of_ble_eq_true rfl) ⟨Nat.le_refl _, Nat.le_refl _⟩ rfl (w.mono (fun r2 σ1 w => ?_))
    show XX g true (d + 1) P_X6_readClause 120 [(2, 6), (0, x1), (0, x2), (0, x3), (9, 0)] [(0, r2)] 136 σ1 136 Q
    refine E_if_ne 123 125 dX6_readClause_120 rfl rfl (fun h => ?_) (fun h => ?_)
    · have w := w.1 h
      refine E_aload_n 126 dX6_readClause_125 rfl (ac_6.bnd) rfl ?_
      refine E_getL 129 dX6_readClause_126 fl_X6_25 ac_6 rfl (by decide) lay_6_0 rfl ?_
      refine E_callV (as := []) 132 dX6_readClause_129 cf_X8_kind mw_666 mw_667 mw_668 ac_1 (by decide) cl_X8 rfl rfl (Nat.le_of_ble_eq_true rfl) (Nat.le_of_ble_eq_true rfl) ⟨Nat.le_refl _, Nat.le_refl _⟩ rfl (w.mono (fun r4 σ3 w => ?_))
      show XX g true (d + 1) P_X6_readClause 132 [(2, 6), (0, x1), (0, x2), (0, x3), (9, 0)] [(0, r4)] 136 σ3 136 Q
      refine E_istore (ls' := [(2, 6), (0, x1), (0, x2), (0, x3), (0, r4)]) 134 dX6_readClause_132 (by decide) rfl rfl ?_
      refine E_iload 136 dX6_readClause_134 rfl rfl ?_
      refine E_bipush 138 dX6_readClause_136 (by decide) rfl ?_
      refine E_icmp_eq 141 161 dX6_readClause_138 rfl rfl (fun h => ?_) (fun h => ?_)
      · have w := w.1 h
        refine XX.fg [1, 2, 3] [(2, 6), (9, 0), (9, 0), (9, 0), (0, r4)] rfl ?_
        with_reducible exact w
      · have w := w.2 h
        refine E_iload 143 dX6_readClause_141 rfl rfl ?_
        refine E_bipush 145 dX6_readClause_143 (by decide) rfl ?_
        refine E_icmp_eq 148 161 dX6_readClause_145 rfl rfl (fun h => ?_) (fun h => ?_)
        · have w := w.1 h
          refine XX.fg [1, 2, 3] [(2, 6), (9, 0), (9, 0), (9, 0), (0, r4)] rfl ?_
          with_reducible exact w
        · have w := w.2 h
          refine E_iload 150 dX6_readClause_148 rfl rfl ?_
          refine E_bipush 152 dX6_readClause_150 (by decide) rfl ?_
          refine E_icmp_eq 155 161 dX6_readClause_152 rfl rfl (fun h => ?_) (fun h => ?_)
          · have w := w.1 h
            refine XX.fg [1, 2, 3] [(2, 6), (9, 0), (9, 0), (9, 0), (0, r4)] rfl ?_
            with_reducible exact w
          · have w := w.2 h
            refine E_aload_n 156 dX6_readClause_155 rfl (ac_6.bnd) rfl ?_
            refine E_iconst 157 dX6_readClause_156 (by decide) rfl ?_
            refine E_callV (as := [(0, 1)]) 160 dX6_readClause_157 cf_X6_stop mw_674 mw_676 mw_6 ac_6 (by decide) cl_X6 rfl rfl (Nat.le_of_ble_eq_true rfl) (Nat.le_of_ble_eq_true rfl) ⟨Nat.le_refl _, Nat.le_refl _⟩ rfl (w.mono (fun r6 σ5 w => ?_))
            show XX g true (d + 1) P_X6_readClause 160 [(2, 6), (0, x1), (0, x2), (0, x3), (0, r4)] [(0, r6)] 136 σ5 136 Q
            obtain ⟨c7, w⟩ := w
            exact E_zret dX6_readClause_160 rfl rfl c7 w
    · have w := w.2 h
      refine E_iconst 124 dX6_readClause_123 (by decide) rfl ?_
      exact E_zret dX6_readClause_124 rfl rfl (Or.inl rfl) w
  · have w := w.2 h
    refine E_aload_n 48 dX6_readClause_47 rfl (ac_6.bnd) rfl ?_
    refine E_getL 51 dX6_readClause_48 fl_X6_25 ac_6 rfl (by decide) lay_6_0 rfl ?_
    refine E_callV (as := []) 54 dX6_readClause_51 cf_X8_next mw_678 mw_679 mw_680 ac_1 (by decide) cl_X8 rfl rfl (Nat.le_of_ble_eq_true rfl) (Nat.le_of_ble_eq_true rfl) ⟨Nat.le_refl _, Nat.le_refl _⟩ rfl (w.mono (fun r9 σ8 w => ?_))
    show XX g true (d + 1) P_X6_readClause 54 [(2, 6), (0, x1), (0, x2), (0, x3), (9, 0)] [] 136 σ8 136 Q
    refine E_iload_n 55 dX6_readClause_54 rfl rfl ?_
    refine E_bipush 57 dX6_readClause_55 (by decide) rfl ?_
    refine E_icmp_ne 60 87 dX6_readClause_57 rfl rfl (fun h => ?_) (fun h => ?_)
    · have w := w.1 h
      refine E_aload_n 88 dX6_readClause_87 rfl (ac_6.bnd) rfl ?_
      refine E_iload_n 89 dX6_readClause_88 rfl rfl ?_
      refine E_iconst 90 dX6_readClause_89 (by decide) rfl ?_
      refine E_iadd 91 dX6_readClause_90 rfl ?_
      refine E_callV (as := [(0, w32 (x1 + 1))]) 94 dX6_readClause_91 cf_X6_readClause mw_771 mw_773 mw_20 ac_6 (by decide) cl_X6 rfl rfl (Nat.le_of_ble_eq_true rfl) (Nat.le_of_ble_eq_true rfl) ⟨Nat.le_refl _, Nat.le_refl _⟩ rfl (w.mono (fun r11 σ10 w => ?_))
      show XX g true (d + 1) P_X6_readClause 94 [(2, 6), (0, x1), (0, x2), (0, x3), (9, 0)] [(0, r11)] 136 σ10 136 Q
      refine E_if_eq 97 114 dX6_readClause_94 rfl rfl (fun h => ?_) (fun h => ?_)
      · have w := w.1 h
        refine XX.fg [0, 1, 2, 3] [(9, 0), (9, 0), (9, 0), (9, 0), (9, 0)] rfl ?_
        with_reducible exact w
      · have w := w.2 h
        refine E_aload_n 98 dX6_readClause_97 rfl (ac_6.bnd) rfl ?_
        refine E_getL 101 dX6_readClause_98 fl_X6_12 ac_6 rfl (by decide) lay_6_1 rfl ?_
        refine E_sipush 104 dX6_readClause_101 (by decide) rfl ?_
        refine E_callV (as := [(0, (-261))]) 107 dX6_readClause_104 cf_X4_put mw_747 mw_748 mw_749 ac_7 (by decide) cl_X4 rfl rfl (Nat.le_of_ble_eq_true rfl) (Nat.le_of_ble_eq_true rfl) ⟨Nat.le_refl _, Nat.le_refl _⟩ rfl (w.mono (fun r13 σ12 w => ?_))
        show XX g true (d + 1) P_X6_readClause 107 [(2, 6), (0, x1), (0, x2), (0, x3), (9, 0)] [(0, r13)] 136 σ12 136 Q
        refine E_if_eq 110 114 dX6_readClause_107 rfl rfl (fun h => ?_) (fun h => ?_)
        · have w := w.1 h
          refine XX.fg [0, 1, 2, 3] [(9, 0), (9, 0), (9, 0), (9, 0), (9, 0)] rfl ?_
          with_reducible exact w
        · have w := w.2 h
          refine E_iconst 111 dX6_readClause_110 (by decide) rfl ?_
          refine E_goto 115 dX6_readClause_111 rfl ?_
          exact E_zret dX6_readClause_115 rfl rfl (Or.inr rfl) w
    · have w := w.2 h
      refine E_aload_n 61 dX6_readClause_60 rfl (ac_6.bnd) rfl ?_
      refine E_iload_n 62 dX6_readClause_61 rfl rfl ?_
      refine E_iconst 63 dX6_readClause_62 (by decide) rfl ?_
      refine E_iadd 64 dX6_readClause_63 rfl ?_
      refine E_callV (as := [(0, w32 (x1 + 1))]) 67 dX6_readClause_64 cf_X6_readOr mw_763 mw_765 mw_18 ac_6 (by decide) cl_X6 rfl rfl (Nat.le_of_ble_eq_true rfl) (Nat.le_of_ble_eq_true rfl) ⟨Nat.le_refl _, Nat.le_refl _⟩ rfl (w.mono (fun r15 σ14 w => ?_))
      show XX g true (d + 1) P_X6_readClause 67 [(2, 6), (0, x1), (0, x2), (0, x3), (9, 0)] [(0, r15)] 136 σ14 136 Q
      refine E_if_eq 70 83 dX6_readClause_67 rfl rfl (fun h => ?_) (fun h => ?_)
      · have w := w.1 h
        refine XX.fg [0, 1, 2, 3] [(9, 0), (9, 0), (9, 0), (9, 0), (9, 0)] rfl ?_
        with_reducible exact w
      · have w := w.2 h
        refine E_aload_n 71 dX6_readClause_70 rfl (ac_6.bnd) rfl ?_
        refine E_bipush 73 dX6_readClause_71 (by decide) rfl ?_
        refine E_callV (as := [(0, 41)]) 76 dX6_readClause_73 cf_X6_pass mw_693 mw_695 mw_8 ac_6 (by decide) cl_X6 rfl rfl (Nat.le_of_ble_eq_true rfl) (Nat.le_of_ble_eq_true rfl) ⟨Nat.le_refl _, Nat.le_refl _⟩ rfl (w.mono (fun r17 σ16 w => ?_))
        show XX g true (d + 1) P_X6_readClause 76 [(2, 6), (0, x1), (0, x2), (0, x3), (9, 0)] [(0, r17)] 136 σ16 136 Q
        refine E_if_eq 79 83 dX6_readClause_76 rfl rfl (fun h => ?_) (fun h => ?_)
        · have w := w.1 h
          refine XX.fg [0, 1, 2, 3] [(9, 0), (9, 0), (9, 0), (9, 0), (9, 0)] rfl ?_
          with_reducible exact w
        · have w := w.2 h
          refine E_iconst 80 dX6_readClause_79 (by decide) rfl ?_
          refine E_goto 115 dX6_readClause_80 rfl ?_
          exact E_zret dX6_readClause_115 rfl rfl (Or.inr rfl) w
theorem B_X6_readClause_161 {g : PG} {d : Nat} {σ : PS} {Q : Int → PS → Prop} {x4 : Int}  (w : XX g true d P_X8_next 0 [(2, 1)] [] 136 σ 136 (fun _ σ1 => XX g true d P_X6_readSum 0 [(2, 6), (9, 0), (9, 0), (9, 0)] [] 136 σ1 136 (fun r4 σ3 => ((r4 = 0 → (XX g true (d + 1) P_X6_readClause 192 [(9, 0), (9, 0), (9, 0), (9, 0), (9, 0)] [] 136 σ3 136 Q)) ∧ (r4 ≠ 0 → XX g true d P_X4_put 0 [(2, 7), (0, w32 (-x4))] [] 136 σ3 136 (fun r6 σ5 => ((r6 = 0 → (XX g true (d + 1) P_X6_readClause 192 [(9, 0), (9, 0), (9, 0), (9, 0), (9, 0)] [] 136 σ5 136 Q)) ∧ (r6 ≠ 0 → Q 1 σ5)))))))) : XX g true (d + 1) P_X6_readClause 161 [(2, 6), (9, 0), (9, 0), (9, 0), (0, x4)] [] 136 σ 136 Q := by
  refine E_aload_n 162 dX6_readClause_161 rfl (ac_6.bnd) rfl ?_
  refine E_getL 165 dX6_readClause_162 fl_X6_25 ac_6 rfl (by decide) lay_6_0 rfl ?_
  refine E_callV (as := []) 168 dX6_readClause_165 cf_X8_next mw_678 mw_679 mw_680 ac_1 (by decide) cl_X8 rfl rfl (Nat.le_of_ble_eq_true rfl) (Nat.le_of_ble_eq_true rfl) ⟨Nat.le_refl _, Nat.le_refl _⟩ rfl (w.mono (fun r2 σ1 w => ?_))
  show XX g true (d + 1) P_X6_readClause 168 [(2, 6), (9, 0), (9, 0), (9, 0), (0, x4)] [] 136 σ1 136 Q
  refine E_aload_n 169 dX6_readClause_168 rfl (ac_6.bnd) rfl ?_
  refine E_callV (as := []) 172 dX6_readClause_169 cf_X6_readSum mw_735 mw_737 mw_13 ac_6 (by decide) cl_X6 rfl rfl (Nat.le_of_ble_eq_true rfl) (Nat.le_of_ble_eq_true rfl) ⟨Nat.le_refl _, Nat.le_refl _⟩ rfl (w.mono (fun r4 σ3 w => ?_))
  show XX g true (d + 1) P_X6_readClause 172 [(2, 6), (9, 0), (9, 0), (9, 0), (0, x4)] [(0, r4)] 136 σ3 136 Q
  refine E_if_eq 175 192 dX6_readClause_172 rfl rfl (fun h => ?_) (fun h => ?_)
  · have w := w.1 h
    refine XX.fg [0, 4] [(9, 0), (9, 0), (9, 0), (9, 0), (9, 0)] rfl ?_
    with_reducible exact w
  · have w := w.2 h
    refine E_aload_n 176 dX6_readClause_175 rfl (ac_6.bnd) rfl ?_
    refine E_getL 179 dX6_readClause_176 fl_X6_12 ac_6 rfl (by decide) lay_6_1 rfl ?_
    refine E_iload 181 dX6_readClause_179 rfl rfl ?_
    refine E_ineg 182 dX6_readClause_181 rfl ?_
    refine E_callV (as := [(0, w32 (-x4))]) 185 dX6_readClause_182 cf_X4_put mw_747 mw_748 mw_749 ac_7 (by decide) cl_X4 rfl rfl (Nat.le_of_ble_eq_true rfl) (Nat.le_of_ble_eq_true rfl) ⟨Nat.le_refl _, Nat.le_refl _⟩ rfl (w.mono (fun r6 σ5 w => ?_))
    show XX g true (d + 1) P_X6_readClause 185 [(2, 6), (9, 0), (9, 0), (9, 0), (0, x4)] [(0, r6)] 136 σ5 136 Q
    refine E_if_eq 188 192 dX6_readClause_185 rfl rfl (fun h => ?_) (fun h => ?_)
    · have w := w.1 h
      refine XX.fg [0, 4] [(9, 0), (9, 0), (9, 0), (9, 0), (9, 0)] rfl ?_
      with_reducible exact w
    · have w := w.2 h
      refine E_iconst 189 dX6_readClause_188 (by decide) rfl ?_
      refine E_goto 193 dX6_readClause_189 rfl ?_
      exact E_zret dX6_readClause_193 rfl rfl (Or.inr rfl) w
theorem B_X6_readClause_114 {g : PG} {d : Nat} {σ : PS} {Q : Int → PS → Prop}  (w : Q 0 σ) : XX g true (d + 1) P_X6_readClause 114 [(9, 0), (9, 0), (9, 0), (9, 0), (9, 0)] [] 136 σ 136 Q := by
  refine E_iconst 115 dX6_readClause_114 (by decide) rfl ?_
  exact E_zret dX6_readClause_115 rfl rfl (Or.inl rfl) w
theorem B_X6_readClause_83 {g : PG} {d : Nat} {σ : PS} {Q : Int → PS → Prop}  (w : Q 0 σ) : XX g true (d + 1) P_X6_readClause 83 [(9, 0), (9, 0), (9, 0), (9, 0), (9, 0)] [] 136 σ 136 Q := by
  refine E_iconst 84 dX6_readClause_83 (by decide) rfl ?_
  refine E_goto 115 dX6_readClause_84 rfl ?_
  exact E_zret dX6_readClause_115 rfl rfl (Or.inl rfl) w
theorem B_X6_readClause_192 {g : PG} {d : Nat} {σ : PS} {Q : Int → PS → Prop}  (w : Q 0 σ) : XX g true (d + 1) P_X6_readClause 192 [(9, 0), (9, 0), (9, 0), (9, 0), (9, 0)] [] 136 σ 136 Q := by
  refine E_iconst 193 dX6_readClause_192 (by decide) rfl ?_
  exact E_zret dX6_readClause_193 rfl rfl (Or.inl rfl) w
theorem B_X6_readBreak_0 {g : PG} {d : Nat} {σ : PS} {Q : Int → PS → Prop} {x1 : Int}  (w : XX g true d P_X8_kind 0 [(2, 1)] [] 136 σ 136 (fun r2 σ1 => ((r2 = 274 → ((x1 < 8 → XX g true d P_X8_next 0 [(2, 1)] [] 136 σ1 136 (fun _ σ3 => ((r2 ≠ 277 → ((r2 ≠ 274 → XX g true d P_X6_readAny 0 [(2, 6), (9, 0), (9, 0)] [] 136 σ3 136 (fun r6 σ5 => ((r6 = 0 → Q 0 σ5) ∧ (r6 ≠ 0 → XX g true d P_X6_pass 0 [(2, 6), (0, 59)] [] 136 σ5 136 (fun r8 σ7 => ((r8 = 0 → Q 0 σ7) ∧ (r8 ≠ 0 → Q 1 σ7))))))) ∧ (r2 = 274 → XX g true d P_X6_readSide 0 [(2, 6), (9, 0)] [] 136 σ3 136 (fun r10 σ9 => ((r10 = 0 → Q 0 σ9) ∧ (r10 ≠ 0 → XX g true d P_X6_pass 0 [(2, 6), (0, 59)] [] 136 σ9 136 (fun r12 σ11 => ((r12 = 0 → Q 0 σ11) ∧ (r12 ≠ 0 → Q 1 σ11))))))))) ∧ (r2 = 277 → XX g true d P_X6_readShape 0 [(2, 6), (9, 0), (9, 0), (9, 0)] [] 136 σ3 136 (fun r14 σ13 => ((r14 = 0 → Q 0 σ13) ∧ (r14 ≠ 0 → XX g true d P_X6_pass 0 [(2, 6), (0, 59)] [] 136 σ13 136 (fun r16 σ15 => ((r16 = 0 → Q 0 σ15) ∧ (r16 ≠ 0 → Q 1 σ15)))))))))) ∧ (8 ≤ x1 → XX g true d P_X6_stop 0 [(2, 6), (0, 3)] [] 136 σ1 136 (fun r18 σ17 => (r18 = 0 ∨ r18 = 1) ∧ Q r18 σ17)))) ∧ (r2 ≠ 274 → ((r2 = 275 → ((x1 < 8 → XX g true d P_X8_next 0 [(2, 1)] [] 136 σ1 136 (fun _ σ20 => ((r2 ≠ 277 → ((r2 ≠ 274 → XX g true d P_X6_readAny 0 [(2, 6), (9, 0), (9, 0)] [] 136 σ20 136 (fun r23 σ22 => ((r23 = 0 → Q 0 σ22) ∧ (r23 ≠ 0 → XX g true d P_X6_pass 0 [(2, 6), (0, 59)] [] 136 σ22 136 (fun r25 σ24 => ((r25 = 0 → Q 0 σ24) ∧ (r25 ≠ 0 → Q 1 σ24))))))) ∧ (r2 = 274 → XX g true d P_X6_readSide 0 [(2, 6), (9, 0)] [] 136 σ20 136 (fun r27 σ26 => ((r27 = 0 → Q 0 σ26) ∧ (r27 ≠ 0 → XX g true d P_X6_pass 0 [(2, 6), (0, 59)] [] 136 σ26 136 (fun r29 σ28 => ((r29 = 0 → Q 0 σ28) ∧ (r29 ≠ 0 → Q 1 σ28))))))))) ∧ (r2 = 277 → XX g true d P_X6_readShape 0 [(2, 6), (9, 0), (9, 0), (9, 0)] [] 136 σ20 136 (fun r31 σ30 => ((r31 = 0 → Q 0 σ30) ∧ (r31 ≠ 0 → XX g true d P_X6_pass 0 [(2, 6), (0, 59)] [] 136 σ30 136 (fun r33 σ32 => ((r33 = 0 → Q 0 σ32) ∧ (r33 ≠ 0 → Q 1 σ32)))))))))) ∧ (8 ≤ x1 → XX g true d P_X6_stop 0 [(2, 6), (0, 3)] [] 136 σ1 136 (fun r35 σ34 => (r35 = 0 ∨ r35 = 1) ∧ Q r35 σ34)))) ∧ (r2 ≠ 275 → ((r2 = 277 → ((x1 < 8 → XX g true d P_X8_next 0 [(2, 1)] [] 136 σ1 136 (fun _ σ37 => ((r2 ≠ 277 → ((r2 ≠ 274 → XX g true d P_X6_readAny 0 [(2, 6), (9, 0), (9, 0)] [] 136 σ37 136 (fun r40 σ39 => ((r40 = 0 → Q 0 σ39) ∧ (r40 ≠ 0 → XX g true d P_X6_pass 0 [(2, 6), (0, 59)] [] 136 σ39 136 (fun r42 σ41 => ((r42 = 0 → Q 0 σ41) ∧ (r42 ≠ 0 → Q 1 σ41))))))) ∧ (r2 = 274 → XX g true d P_X6_readSide 0 [(2, 6), (9, 0)] [] 136 σ37 136 (fun r44 σ43 => ((r44 = 0 → Q 0 σ43) ∧ (r44 ≠ 0 → XX g true d P_X6_pass 0 [(2, 6), (0, 59)] [] 136 σ43 136 (fun r46 σ45 => ((r46 = 0 → Q 0 σ45) ∧ (r46 ≠ 0 → Q 1 σ45))))))))) ∧ (r2 = 277 → XX g true d P_X6_readShape 0 [(2, 6), (9, 0), (9, 0), (9, 0)] [] 136 σ37 136 (fun r48 σ47 => ((r48 = 0 → Q 0 σ47) ∧ (r48 ≠ 0 → XX g true d P_X6_pass 0 [(2, 6), (0, 59)] [] 136 σ47 136 (fun r50 σ49 => ((r50 = 0 → Q 0 σ49) ∧ (r50 ≠ 0 → Q 1 σ49)))))))))) ∧ (8 ≤ x1 → XX g true d P_X6_stop 0 [(2, 6), (0, 3)] [] 136 σ1 136 (fun r52 σ51 => (r52 = 0 ∨ r52 = 1) ∧ Q r52 σ51)))) ∧ (r2 ≠ 277 → XX g true d P_X6_stop 0 [(2, 6), (0, 1)] [] 136 σ1 136 (fun r55 σ54 => (r55 = 0 ∨ r55 = 1) ∧ Q r55 σ54))))))))) : XX g true (d + 1) P_X6_readBreak 0 [(2, 6), (0, x1), (9, 0)] [] 136 σ 136 Q := by
  refine E_aload_n 1 dX6_readBreak_0 rfl (ac_6.bnd) rfl ?_
  refine E_getL 4 dX6_readBreak_1 fl_X6_25 ac_6 rfl (by decide) lay_6_0 rfl ?_
  refine E_callV (as := []) 7 dX6_readBreak_4 cf_X8_kind mw_666 mw_667 mw_668 ac_1 (by decide) cl_X8 rfl rfl (Nat.le_of_ble_eq_true rfl) (Nat.le_of_ble_eq_true rfl) ⟨Nat.le_refl _, Nat.le_refl _⟩ rfl (w.mono (fun r2 σ1 w => ?_))
  show XX g true (d + 1) P_X6_readBreak 7 [(2, 6), (0, x1), (9, 0)] [(0, r2)] 136 σ1 136 Q
  refine E_istore_n (ls' := [(2, 6), (0, x1), (0, r2)]) 8 dX6_readBreak_7 (by decide) rfl rfl ?_
  refine E_iload_n 9 dX6_readBreak_8 rfl rfl ?_
  refine E_sipush 12 dX6_readBreak_9 (by decide) rfl ?_
  refine E_icmp_eq 15 35 dX6_readBreak_12 rfl rfl (fun h => ?_) (fun h => ?_)
  · have w := w.1 h
    refine E_iload_n 36 dX6_readBreak_35 rfl rfl ?_
    refine E_bipush 38 dX6_readBreak_36 (by decide) rfl ?_
    refine E_icmp_lt 41 47 dX6_readBreak_38 rfl rfl (fun h => ?_) (fun h => ?_)
    · have w := w.1 h
      refine E_aload_n 48 dX6_readBreak_47 rfl (ac_6.bnd) rfl ?_
      refine E_getL 51 dX6_readBreak_48 fl_X6_25 ac_6 rfl (by decide) lay_6_0 rfl ?_
      refine E_callV (as := []) 54 dX6_readBreak_51 cf_X8_next mw_678 mw_679 mw_680 ac_1 (by decide) cl_X8 rfl rfl (Nat.le_of_ble_eq_true rfl) (Nat.le_of_ble_eq_true rfl) ⟨Nat.le_refl _, Nat.le_refl _⟩ rfl (w.mono (fun r4 σ3 w => ?_))
      show XX g true (d + 1) P_X6_readBreak 54 [(2, 6), (0, x1), (0, r2)] [] 136 σ3 136 Q
      refine E_iload_n 55 dX6_readBreak_54 rfl rfl ?_
      refine E_sipush 58 dX6_readBreak_55 (by decide) rfl ?_
      refine E_icmp_ne 61 83 dX6_readBreak_58 rfl rfl (fun h => ?_) (fun h => ?_)
      · have w := w.1 h
        refine E_iload_n 84 dX6_readBreak_83 rfl rfl ?_
        refine E_sipush 87 dX6_readBreak_84 (by decide) rfl ?_
        refine E_icmp_ne 90 100 dX6_readBreak_87 rfl rfl (fun h => ?_) (fun h => ?_)
        · have w := w.1 h
          refine E_aload_n 101 dX6_readBreak_100 rfl (ac_6.bnd) rfl ?_
          refine E_callV (as := []) 104 dX6_readBreak_101 cf_X6_readAny mw_719 mw_721 mw_11 ac_6 (by decide) cl_X6 rfl rfl (Nat.le_of_ble_eq_true rfl) (Nat.le_of_ble_eq_true rfl) ⟨Nat.le_refl _, Nat.le_refl _⟩ rfl (w.mono (fun r6 σ5 w => ?_))
          show XX g true (d + 1) P_X6_readBreak 104 [(2, 6), (0, x1), (0, r2)] [(0, r6)] 136 σ5 136 Q
          refine E_if_eq 107 120 dX6_readBreak_104 rfl rfl (fun h => ?_) (fun h => ?_)
          · have w := w.1 h
            refine E_iconst 121 dX6_readBreak_120 (by decide) rfl ?_
            exact E_zret dX6_readBreak_121 rfl rfl (Or.inl rfl) w
          · have w := w.2 h
            refine E_aload_n 108 dX6_readBreak_107 rfl (ac_6.bnd) rfl ?_
            refine E_bipush 110 dX6_readBreak_108 (by decide) rfl ?_
            refine E_callV (as := [(0, 59)]) 113 dX6_readBreak_110 cf_X6_pass mw_693 mw_695 mw_8 ac_6 (by decide) cl_X6 rfl rfl (Nat.le_of_ble_eq_true rfl) (Nat.le_of_ble_eq_true rfl) ⟨Nat.le_refl _, Nat.le_refl _⟩ rfl (w.mono (fun r8 σ7 w => ?_))
            show XX g true (d + 1) P_X6_readBreak 113 [(2, 6), (0, x1), (0, r2)] [(0, r8)] 136 σ7 136 Q
            refine E_if_eq 116 120 dX6_readBreak_113 rfl rfl (fun h => ?_) (fun h => ?_)
            · have w := w.1 h
              refine E_iconst 121 dX6_readBreak_120 (by decide) rfl ?_
              exact E_zret dX6_readBreak_121 rfl rfl (Or.inl rfl) w
            · have w := w.2 h
              refine E_iconst 117 dX6_readBreak_116 (by decide) rfl ?_
              refine E_goto 121 dX6_readBreak_117 rfl ?_
              exact E_zret dX6_readBreak_121 rfl rfl (Or.inr rfl) w
        · have w := w.2 h
          refine E_aload_n 91 dX6_readBreak_90 rfl (ac_6.bnd) rfl ?_
          refine E_callV (as := []) 94 dX6_readBreak_91 cf_X6_readSide mw_697 mw_699 mw_9 ac_6 (by decide) cl_X6 rfl rfl (Nat.le_of_ble_eq_true rfl) (Nat.le_of_ble_eq_true rfl) ⟨Nat.le_refl _, Nat.le_refl _⟩ rfl (w.mono (fun r10 σ9 w => ?_))
          show XX g true (d + 1) P_X6_readBreak 94 [(2, 6), (0, x1), (0, r2)] [(0, r10)] 136 σ9 136 Q
          refine E_if_eq 97 120 dX6_readBreak_94 rfl rfl (fun h => ?_) (fun h => ?_)
          · have w := w.1 h
            refine E_iconst 121 dX6_readBreak_120 (by decide) rfl ?_
            exact E_zret dX6_readBreak_121 rfl rfl (Or.inl rfl) w
          · have w := w.2 h
            refine E_goto 107 dX6_readBreak_97 rfl ?_
            refine E_aload_n 108 dX6_readBreak_107 rfl (ac_6.bnd) rfl ?_
            refine E_bipush 110 dX6_readBreak_108 (by decide) rfl ?_
            refine E_callV (as := [(0, 59)]) 113 dX6_readBreak_110 cf_X6_pass mw_693 mw_695 mw_8 ac_6 (by decide) cl_X6 rfl rfl (Nat.le_of_ble_eq_true rfl) (Nat.le_of_ble_eq_true rfl) ⟨Nat.le_refl _, Nat.le_refl _⟩ rfl (w.mono (fun r12 σ11 w => ?_))
            show XX g true (d + 1) P_X6_readBreak 113 [(2, 6), (0, x1), (0, r2)] [(0, r12)] 136 σ11 136 Q
            refine E_if_eq 116 120 dX6_readBreak_113 rfl rfl (fun h => ?_) (fun h => ?_)
            · have w := w.1 h
              refine E_iconst 121 dX6_readBreak_120 (by decide) rfl ?_
              exact E_zret dX6_readBreak_121 rfl rfl (Or.inl rfl) w
            · have w := w.2 h
              refine E_iconst 117 dX6_readBreak_116 (by decide) rfl ?_
              refine E_goto 121 dX6_readBreak_117 rfl ?_
              exact E_zret dX6_readBreak_121 rfl rfl (Or.inr rfl) w
      · have w := w.2 h
        refine E_aload_n 62 dX6_readBreak_61 rfl (ac_6.bnd) rfl ?_
        refine E_callV (as := []) 65 dX6_readBreak_62 cf_X6_readShape mw_682 mw_684 mw_7 ac_6 (by decide) cl_X6 rfl rfl (Nat.le_of_ble_eq_true rfl) (Nat.le_of_ble_eq_true rfl) ⟨Nat.le_refl _, Nat.le_refl _⟩ rfl (w.mono (fun r14 σ13 w => ?_))
        show XX g true (d + 1) P_X6_readBreak 65 [(2, 6), (0, x1), (0, r2)] [(0, r14)] 136 σ13 136 Q
        refine E_if_eq 68 81 dX6_readBreak_65 rfl rfl (fun h => ?_) (fun h => ?_)
        · have w := w.1 h
          refine E_iconst 82 dX6_readBreak_81 (by decide) rfl ?_
          exact E_zret dX6_readBreak_82 rfl rfl (Or.inl rfl) w
        · have w := w.2 h
          refine E_aload_n 69 dX6_readBreak_68 rfl (ac_6.bnd) rfl ?_
          refine E_bipush 71 dX6_readBreak_69 (by decide) rfl ?_
          refine E_callV (as := [(0, 59)]) 74 dX6_readBreak_71 cf_X6_pass mw_693 mw_695 mw_8 ac_6 (by decide) cl_X6 rfl rfl (Nat.le_of_ble_eq_true rfl) (Nat.le_of_ble_eq_true rfl) ⟨Nat.le_refl _, Nat.le_refl _⟩ rfl (w.mono (fun r16 σ15 w => ?_))
          show XX g true (d + 1) P_X6_readBreak 74 [(2, 6), (0, x1), (0, r2)] [(0, r16)] 136 σ15 136 Q
          refine E_if_eq 77 81 dX6_readBreak_74 rfl rfl (fun h => ?_) (fun h => ?_)
          · have w := w.1 h
            refine E_iconst 82 dX6_readBreak_81 (by decide) rfl ?_
            exact E_zret dX6_readBreak_82 rfl rfl (Or.inl rfl) w
          · have w := w.2 h
            refine E_iconst 78 dX6_readBreak_77 (by decide) rfl ?_
            refine E_goto 82 dX6_readBreak_78 rfl ?_
            exact E_zret dX6_readBreak_82 rfl rfl (Or.inr rfl) w
    · have w := w.2 h
      refine E_aload_n 42 dX6_readBreak_41 rfl (ac_6.bnd) rfl ?_
      refine E_iconst 43 dX6_readBreak_42 (by decide) rfl ?_
      refine E_callV (as := [(0, 3)]) 46 dX6_readBreak_43 cf_X6_stop mw_674 mw_676 mw_6 ac_6 (by decide) cl_X6 rfl rfl (Nat.le_of_ble_eq_true rfl) (Nat.le_of_ble_eq_true rfl) ⟨Nat.le_refl _, Nat.le_refl _⟩ rfl (w.mono (fun r18 σ17 w => ?_))
      show XX g true (d + 1) P_X6_readBreak 46 [(2, 6), (0, x1), (0, r2)] [(0, r18)] 136 σ17 136 Q
      obtain ⟨c19, w⟩ := w
      exact E_zret dX6_readBreak_46 rfl rfl c19 w
  · have w := w.2 h
    refine E_iload_n 16 dX6_readBreak_15 rfl rfl ?_
    refine E_sipush 19 dX6_readBreak_16 (by decide) rfl ?_
    refine E_icmp_eq 22 35 dX6_readBreak_19 rfl rfl (fun h => ?_) (fun h => ?_)
    · have w := w.1 h
      refine E_iload_n 36 dX6_readBreak_35 rfl rfl ?_
      refine E_bipush 38 dX6_readBreak_36 (by decide) rfl ?_
      refine E_icmp_lt 41 47 dX6_readBreak_38 rfl rfl (fun h => ?_) (fun h => ?_)
      · have w := w.1 h
        refine E_aload_n 48 dX6_readBreak_47 rfl (ac_6.bnd) rfl ?_
        refine E_getL 51 dX6_readBreak_48 fl_X6_25 ac_6 rfl (by decide) lay_6_0 rfl ?_
        refine E_callV (as := []) 54 dX6_readBreak_51 cf_X8_next mw_678 mw_679 mw_680 ac_1 (by decide) cl_X8 rfl rfl (Nat.le_of_ble_eq_true rfl) (Nat.le_of_ble_eq_true rfl) ⟨Nat.le_refl _, Nat.le_refl _⟩ rfl (w.mono (fun r21 σ20 w => ?_))
        show XX g true (d + 1) P_X6_readBreak 54 [(2, 6), (0, x1), (0, r2)] [] 136 σ20 136 Q
        refine E_iload_n 55 dX6_readBreak_54 rfl rfl ?_
        refine E_sipush 58 dX6_readBreak_55 (by decide) rfl ?_
        refine E_icmp_ne 61 83 dX6_readBreak_58 rfl rfl (fun h => ?_) (fun h => ?_)
        · have w := w.1 h
          refine E_iload_n 84 dX6_readBreak_83 rfl rfl ?_
          refine E_sipush 87 dX6_readBreak_84 (by decide) rfl ?_
          refine E_icmp_ne 90 100 dX6_readBreak_87 rfl rfl (fun h => ?_) (fun h => ?_)
          · have w := w.1 h
            refine E_aload_n 101 dX6_readBreak_100 rfl (ac_6.bnd) rfl ?_
            refine E_callV (as := []) 104 dX6_readBreak_101 cf_X6_readAny mw_719 mw_721 mw_11 ac_6 (by decide) cl_X6 rfl rfl (Nat.le_of_ble_eq_true rfl) (Nat.le_of_ble_eq_true rfl) ⟨Nat.le_refl _, Nat.le_refl _⟩ rfl (w.mono (fun r23 σ22 w => ?_))
            show XX g true (d + 1) P_X6_readBreak 104 [(2, 6), (0, x1), (0, r2)] [(0, r23)] 136 σ22 136 Q
            refine E_if_eq 107 120 dX6_readBreak_104 rfl rfl (fun h => ?_) (fun h => ?_)
            · have w := w.1 h
              refine E_iconst 121 dX6_readBreak_120 (by decide) rfl ?_
              exact E_zret dX6_readBreak_121 rfl rfl (Or.inl rfl) w
            · have w := w.2 h
              refine E_aload_n 108 dX6_readBreak_107 rfl (ac_6.bnd) rfl ?_
              refine E_bipush 110 dX6_readBreak_108 (by decide) rfl ?_
              refine E_callV (as := [(0, 59)]) 113 dX6_readBreak_110 cf_X6_pass mw_693 mw_695 mw_8 ac_6 (by decide) cl_X6 rfl rfl (Nat.le_of_ble_eq_true rfl) (Nat.le_of_ble_eq_true rfl) ⟨Nat.le_refl _, Nat.le_refl _⟩ rfl (w.mono (fun r25 σ24 w => ?_))
              show XX g true (d + 1) P_X6_readBreak 113 [(2, 6), (0, x1), (0, r2)] [(0, r25)] 136 σ24 136 Q
              refine E_if_eq 116 120 dX6_readBreak_113 rfl rfl (fun h => ?_) (fun h => ?_)
              · have w := w.1 h
                refine E_iconst 121 dX6_readBreak_120 (by decide) rfl ?_
                exact E_zret dX6_readBreak_121 rfl rfl (Or.inl rfl) w
              · have w := w.2 h
                refine E_iconst 117 dX6_readBreak_116 (by decide) rfl ?_
                refine E_goto 121 dX6_readBreak_117 rfl ?_
                exact E_zret dX6_readBreak_121 rfl rfl (Or.inr rfl) w
          · have w := w.2 h
            refine E_aload_n 91 dX6_readBreak_90 rfl (ac_6.bnd) rfl ?_
            refine E_callV (as := []) 94 dX6_readBreak_91 cf_X6_readSide mw_697 mw_699 mw_9 ac_6 (by decide) cl_X6 rfl rfl (Nat.le_of_ble_eq_true rfl) (Nat.le_of_ble_eq_true rfl) ⟨Nat.le_refl _, Nat.le_refl _⟩ rfl (w.mono (fun r27 σ26 w => ?_))
            show XX g true (d + 1) P_X6_readBreak 94 [(2, 6), (0, x1), (0, r2)] [(0, r27)] 136 σ26 136 Q
            refine E_if_eq 97 120 dX6_readBreak_94 rfl rfl (fun h => ?_) (fun h => ?_)
            · have w := w.1 h
              refine E_iconst 121 dX6_readBreak_120 (by decide) rfl ?_
              exact E_zret dX6_readBreak_121 rfl rfl (Or.inl rfl) w
            · have w := w.2 h
              refine E_goto 107 dX6_readBreak_97 rfl ?_
              refine E_aload_n 108 dX6_readBreak_107 rfl (ac_6.bnd) rfl ?_
              refine E_bipush 110 dX6_readBreak_108 (by decide) rfl ?_
              refine E_callV (as := [(0, 59)]) 113 dX6_readBreak_110 cf_X6_pass mw_693 mw_695 mw_8 ac_6 (by decide) cl_X6 rfl rfl (Nat.le_of_ble_eq_true rfl) (Nat.le_of_ble_eq_true rfl) ⟨Nat.le_refl _, Nat.le_refl _⟩ rfl (w.mono (fun r29 σ28 w => ?_))
              show XX g true (d + 1) P_X6_readBreak 113 [(2, 6), (0, x1), (0, r2)] [(0, r29)] 136 σ28 136 Q
              refine E_if_eq 116 120 dX6_readBreak_113 rfl rfl (fun h => ?_) (fun h => ?_)
              · have w := w.1 h
                refine E_iconst 121 dX6_readBreak_120 (by decide) rfl ?_
                exact E_zret dX6_readBreak_121 rfl rfl (Or.inl rfl) w
              · have w := w.2 h
                refine E_iconst 117 dX6_readBreak_116 (by decide) rfl ?_
                refine E_goto 121 dX6_readBreak_117 rfl ?_
                exact E_zret dX6_readBreak_121 rfl rfl (Or.inr rfl) w
        · have w := w.2 h
          refine E_aload_n 62 dX6_readBreak_61 rfl (ac_6.bnd) rfl ?_
          refine E_callV (as := []) 65 dX6_readBreak_62 cf_X6_readShape mw_682 mw_684 mw_7 ac_6 (by decide) cl_X6 rfl rfl (Nat.le_of_ble_eq_true rfl) (Nat.le_of_ble_eq_true rfl) ⟨Nat.le_refl _, Nat.le_refl _⟩ rfl (w.mono (fun r31 σ30 w => ?_))
          show XX g true (d + 1) P_X6_readBreak 65 [(2, 6), (0, x1), (0, r2)] [(0, r31)] 136 σ30 136 Q
          refine E_if_eq 68 81 dX6_readBreak_65 rfl rfl (fun h => ?_) (fun h => ?_)
          · have w := w.1 h
            refine E_iconst 82 dX6_readBreak_81 (by decide) rfl ?_
            exact E_zret dX6_readBreak_82 rfl rfl (Or.inl rfl) w
          · have w := w.2 h
            refine E_aload_n 69 dX6_readBreak_68 rfl (ac_6.bnd) rfl ?_
            refine E_bipush 71 dX6_readBreak_69 (by decide) rfl ?_
            refine E_callV (as := [(0, 59)]) 74 dX6_readBreak_71 cf_X6_pass mw_693 mw_695 mw_8 ac_6 (by decide) cl_X6 rfl rfl (Nat.le_of_ble_eq_true rfl) (Nat.le_of_ble_eq_true rfl) ⟨Nat.le_refl _, Nat.le_refl _⟩ rfl (w.mono (fun r33 σ32 w => ?_))
            show XX g true (d + 1) P_X6_readBreak 74 [(2, 6), (0, x1), (0, r2)] [(0, r33)] 136 σ32 136 Q
            refine E_if_eq 77 81 dX6_readBreak_74 rfl rfl (fun h => ?_) (fun h => ?_)
            · have w := w.1 h
              refine E_iconst 82 dX6_readBreak_81 (by decide) rfl ?_
              exact E_zret dX6_readBreak_82 rfl rfl (Or.inl rfl) w
            · have w := w.2 h
              refine E_iconst 78 dX6_readBreak_77 (by decide) rfl ?_
              refine E_goto 82 dX6_readBreak_78 rfl ?_
              exact E_zret dX6_readBreak_82 rfl rfl (Or.inr rfl) w
      · have w := w.2 h
        refine E_aload_n 42 dX6_readBreak_41 rfl (ac_6.bnd) rfl ?_
        refine E_iconst 43 dX6_readBreak_42 (by decide) rfl ?_
        refine E_callV (as := [(0, 3)]) 46 dX6_readBreak_43 cf_X6_stop mw_674 mw_676 mw_6 ac_6 (by decide) cl_X6 rfl rfl (Nat.le_of_ble_eq_true rfl) (Nat.le_of_ble_eq_true rfl) ⟨Nat.le_refl _, Nat.le_refl _⟩ rfl (w.mono (fun r35 σ34 w => ?_))
        show XX g true (d + 1) P_X6_readBreak 46 [(2, 6), (0, x1), (0, r2)] [(0, r35)] 136 σ34 136 Q
        obtain ⟨c36, w⟩ := w
        exact E_zret dX6_readBreak_46 rfl rfl c36 w
    · have w := w.2 h
      refine E_iload_n 23 dX6_readBreak_22 rfl rfl ?_
      refine E_sipush 26 dX6_readBreak_23 (by decide) rfl ?_
      refine E_icmp_eq 29 35 dX6_readBreak_26 rfl rfl (fun h => ?_) (fun h => ?_)
      · have w := w.1 h
        refine E_iload_n 36 dX6_readBreak_35 rfl rfl ?_
        refine E_bipush 38 dX6_readBreak_36 (by decide) rfl ?_
        refine E_icmp_lt 41 47 dX6_readBreak_38 rfl rfl (fun h => ?_) (fun h => ?_)
        · have w := w.1 h
          refine E_aload_n 48 dX6_readBreak_47 rfl (ac_6.bnd) rfl ?_
          refine E_getL 51 dX6_readBreak_48 fl_X6_25 ac_6 rfl (by decide) lay_6_0 rfl ?_
          refine E_callV (as := []) 54 dX6_readBreak_51 cf_X8_next mw_678 mw_679 mw_680 ac_1 (by decide) cl_X8 rfl rfl (Nat.le_of_ble_eq_true rfl) (Nat.le_of_ble_eq_true rfl) ⟨Nat.le_refl _, Nat.le_refl _⟩ rfl (w.mono (fun r38 σ37 w => ?_))
          show XX g true (d + 1) P_X6_readBreak 54 [(2, 6), (0, x1), (0, r2)] [] 136 σ37 136 Q
          refine E_iload_n 55 dX6_readBreak_54 rfl rfl ?_
          refine E_sipush 58 dX6_readBreak_55 (by decide) rfl ?_
          refine E_icmp_ne 61 83 dX6_readBreak_58 rfl rfl (fun h => ?_) (fun h => ?_)
          · have w := w.1 h
            refine E_iload_n 84 dX6_readBreak_83 rfl rfl ?_
            refine E_sipush 87 dX6_readBreak_84 (by decide) rfl ?_
            refine E_icmp_ne 90 100 dX6_readBreak_87 rfl rfl (fun h => ?_) (fun h => ?_)
            · have w := w.1 h
              refine E_aload_n 101 dX6_readBreak_100 rfl (ac_6.bnd) rfl ?_
              refine E_callV (as := []) 104 dX6_readBreak_101 cf_X6_readAny mw_719 mw_721 mw_11 ac_6 (by decide) cl_X6 rfl rfl (Nat.le_of_ble_eq_true rfl) (Nat.le_of_ble_eq_true rfl) ⟨Nat.le_refl _, Nat.le_refl _⟩ rfl (w.mono (fun r40 σ39 w => ?_))
              show XX g true (d + 1) P_X6_readBreak 104 [(2, 6), (0, x1), (0, r2)] [(0, r40)] 136 σ39 136 Q
              refine E_if_eq 107 120 dX6_readBreak_104 rfl rfl (fun h => ?_) (fun h => ?_)
              · have w := w.1 h
                refine E_iconst 121 dX6_readBreak_120 (by decide) rfl ?_
                exact E_zret dX6_readBreak_121 rfl rfl (Or.inl rfl) w
              · have w := w.2 h
                refine E_aload_n 108 dX6_readBreak_107 rfl (ac_6.bnd) rfl ?_
                refine E_bipush 110 dX6_readBreak_108 (by decide) rfl ?_
                refine E_callV (as := [(0, 59)]) 113 dX6_readBreak_110 cf_X6_pass mw_693 mw_695 mw_8 ac_6 (by decide) cl_X6 rfl rfl (Nat.le_of_ble_eq_true rfl) (Nat.le_of_ble_eq_true rfl) ⟨Nat.le_refl _, Nat.le_refl _⟩ rfl (w.mono (fun r42 σ41 w => ?_))
                show XX g true (d + 1) P_X6_readBreak 113 [(2, 6), (0, x1), (0, r2)] [(0, r42)] 136 σ41 136 Q
                refine E_if_eq 116 120 dX6_readBreak_113 rfl rfl (fun h => ?_) (fun h => ?_)
                · have w := w.1 h
                  refine E_iconst 121 dX6_readBreak_120 (by decide) rfl ?_
                  exact E_zret dX6_readBreak_121 rfl rfl (Or.inl rfl) w
                · have w := w.2 h
                  refine E_iconst 117 dX6_readBreak_116 (by decide) rfl ?_
                  refine E_goto 121 dX6_readBreak_117 rfl ?_
                  exact E_zret dX6_readBreak_121 rfl rfl (Or.inr rfl) w
            · have w := w.2 h
              refine E_aload_n 91 dX6_readBreak_90 rfl (ac_6.bnd) rfl ?_
              refine E_callV (as := []) 94 dX6_readBreak_91 cf_X6_readSide mw_697 mw_699 mw_9 ac_6 (by decide) cl_X6 rfl rfl (Nat.le_of_ble_eq_true rfl) (Nat.le_of_ble_eq_true rfl) ⟨Nat.le_refl _, Nat.le_refl _⟩ rfl (w.mono (fun r44 σ43 w => ?_))
              show XX g true (d + 1) P_X6_readBreak 94 [(2, 6), (0, x1), (0, r2)] [(0, r44)] 136 σ43 136 Q
              refine E_if_eq 97 120 dX6_readBreak_94 rfl rfl (fun h => ?_) (fun h => ?_)
              · have w := w.1 h
                refine E_iconst 121 dX6_readBreak_120 (by decide) rfl ?_
                exact E_zret dX6_readBreak_121 rfl rfl (Or.inl rfl) w
              · have w := w.2 h
                refine E_goto 107 dX6_readBreak_97 rfl ?_
                refine E_aload_n 108 dX6_readBreak_107 rfl (ac_6.bnd) rfl ?_
                refine E_bipush 110 dX6_readBreak_108 (by decide) rfl ?_
                refine E_callV (as := [(0, 59)]) 113 dX6_readBreak_110 cf_X6_pass mw_693 mw_695 mw_8 ac_6 (by decide) cl_X6 rfl rfl (Nat.le_of_ble_eq_true rfl) (Nat.le_of_ble_eq_true rfl) ⟨Nat.le_refl _, Nat.le_refl _⟩ rfl (w.mono (fun r46 σ45 w => ?_))
                show XX g true (d + 1) P_X6_readBreak 113 [(2, 6), (0, x1), (0, r2)] [(0, r46)] 136 σ45 136 Q
                refine E_if_eq 116 120 dX6_readBreak_113 rfl rfl (fun h => ?_) (fun h => ?_)
                · have w := w.1 h
                  refine E_iconst 121 dX6_readBreak_120 (by decide) rfl ?_
                  exact E_zret dX6_readBreak_121 rfl rfl (Or.inl rfl) w
                · have w := w.2 h
                  refine E_iconst 117 dX6_readBreak_116 (by decide) rfl ?_
                  refine E_goto 121 dX6_readBreak_117 rfl ?_
                  exact E_zret dX6_readBreak_121 rfl rfl (Or.inr rfl) w
          · have w := w.2 h
            refine E_aload_n 62 dX6_readBreak_61 rfl (ac_6.bnd) rfl ?_
            refine E_callV (as := []) 65 dX6_readBreak_62 cf_X6_readShape mw_682 mw_684 mw_7 ac_6 (by decide) cl_X6 rfl rfl (Nat.le_of_ble_eq_true rfl) (Nat.le_of_ble_eq_true rfl) ⟨Nat.le_refl _, Nat.le_refl _⟩ rfl (w.mono (fun r48 σ47 w => ?_))
            show XX g true (d + 1) P_X6_readBreak 65 [(2, 6), (0, x1), (0, r2)] [(0, r48)] 136 σ47 136 Q
            refine E_if_eq 68 81 dX6_readBreak_65 rfl rfl (fun h => ?_) (fun h => ?_)
            · have w := w.1 h
              refine E_iconst 82 dX6_readBreak_81 (by decide) rfl ?_
              exact E_zret dX6_readBreak_82 rfl rfl (Or.inl rfl) w
            · have w := w.2 h
              refine E_aload_n 69 dX6_readBreak_68 rfl (ac_6.bnd) rfl ?_
              refine E_bipush 71 dX6_readBreak_69 (by decide) rfl ?_
              refine E_callV (as := [(0, 59)]) 74 dX6_readBreak_71 cf_X6_pass mw_693 mw_695 mw_8 ac_6 (by decide) cl_X6 rfl rfl (Nat.le_of_ble_eq_true rfl) (Nat.le_of_ble_eq_true rfl) ⟨Nat.le_refl _, Nat.le_refl _⟩ rfl (w.mono (fun r50 σ49 w => ?_))
              show XX g true (d + 1) P_X6_readBreak 74 [(2, 6), (0, x1), (0, r2)] [(0, r50)] 136 σ49 136 Q
              refine E_if_eq 77 81 dX6_readBreak_74 rfl rfl (fun h => ?_) (fun h => ?_)
              · have w := w.1 h
                refine E_iconst 82 dX6_readBreak_81 (by decide) rfl ?_
                exact E_zret dX6_readBreak_82 rfl rfl (Or.inl rfl) w
              · have w := w.2 h
                refine E_iconst 78 dX6_readBreak_77 (by decide) rfl ?_
                refine E_goto 82 dX6_readBreak_78 rfl ?_
                exact E_zret dX6_readBreak_82 rfl rfl (Or.inr rfl) w
        · have w := w.2 h
          refine E_aload_n 42 dX6_readBreak_41 rfl (ac_6.bnd) rfl ?_
          refine E_iconst 43 dX6_readBreak_42 (by decide) rfl ?_
          refine E_callV (as := [(0, 3)]) 46 dX6_readBreak_43 cf_X6_stop mw_674 mw_676 mw_6 ac_6 (by decide) cl_X6 rfl rfl (Nat.le_of_ble_eq_true rfl) (Nat.le_of_ble_eq_true rfl) ⟨Nat.le_refl _, Nat.le_refl _⟩ rfl (w.mono (fun r52 σ51 w => ?_))
          show XX g true (d + 1) P_X6_readBreak 46 [(2, 6), (0, x1), (0, r2)] [(0, r52)] 136 σ51 136 Q
          obtain ⟨c53, w⟩ := w
          exact E_zret dX6_readBreak_46 rfl rfl c53 w
      · have w := w.2 h
        refine E_aload_n 30 dX6_readBreak_29 rfl (ac_6.bnd) rfl ?_
        refine E_iconst 31 dX6_readBreak_30 (by decide) rfl ?_
        refine E_callV (as := [(0, 1)]) 34 dX6_readBreak_31 cf_X6_stop mw_674 mw_676 mw_6 ac_6 (by decide) cl_X6 rfl rfl (Nat.le_of_ble_eq_true rfl) (Nat.le_of_ble_eq_true rfl) ⟨Nat.le_refl _, Nat.le_refl _⟩ rfl (w.mono (fun r55 σ54 w => ?_))
        show XX g true (d + 1) P_X6_readBreak 34 [(2, 6), (0, x1), (0, r2)] [(0, r55)] 136 σ54 136 Q
        obtain ⟨c56, w⟩ := w
        exact E_zret dX6_readBreak_34 rfl rfl c56 w
theorem B_X6_readSide_0 {g : PG} {d : Nat} {σ : PS} {Q : Int → PS → Prop}  (w : XX g true d P_X8_number 0 [(2, 1)] [] 136 σ 136 (fun r2 σ1 => XX g true d P_X6_passNumber 0 [(2, 6), (0, 1)] [] 136 σ1 136 (fun r4 σ3 => ((r4 ≠ 0 → XX g true d P_X1_addAny 0 [(2, 11), (0, r2), (0, r2), (9, 0), (9, 0)] [] 136 σ3 136 (fun _ σ5 => Q 1 σ5)) ∧ (r4 = 0 → Q 0 σ3))))) : XX g true (d + 1) P_X6_readSide 0 [(2, 6), (9, 0)] [] 136 σ 136 Q := by
  refine E_aload_n 1 dX6_readSide_0 rfl (ac_6.bnd) rfl ?_
  refine E_getL 4 dX6_readSide_1 fl_X6_25 ac_6 rfl (by decide) lay_6_0 rfl ?_
  refine E_callV (as := []) 7 dX6_readSide_4 cf_X8_number mw_701 mw_702 mw_703 ac_1 (by decide) cl_X8 rfl rfl (Nat.le_of_ble_eq_true rfl) (Nat.le_of_ble_eq_true rfl) ⟨Nat.le_refl _, Nat.le_refl _⟩ rfl (w.mono (fun r2 σ1 w => ?_))
  show XX g true (d + 1) P_X6_readSide 7 [(2, 6), (9, 0)] [(0, r2)] 136 σ1 136 Q
  refine E_istore_n (ls' := [(2, 6), (0, r2)]) 8 dX6_readSide_7 (by decide) rfl rfl ?_
  refine E_aload_n 9 dX6_readSide_8 rfl (ac_6.bnd) rfl ?_
  refine E_iconst 10 dX6_readSide_9 (by decide) rfl ?_
  refine E_callV (as := [(0, 1)]) 13 dX6_readSide_10 cf_X6_passNumber mw_705 mw_707 mw_10 ac_6 (by decide) cl_X6 rfl rfl (Nat.le_of_ble_eq_true rfl) (Nat.le_of_ble_eq_true rfl) ⟨Nat.le_refl _, Nat.le_refl _⟩ rfl (w.mono (fun r4 σ3 w => ?_))
  show XX g true (d + 1) P_X6_readSide 13 [(2, 6), (0, r2)] [(0, r4)] 136 σ3 136 Q
  refine E_if_ne 16 18 dX6_readSide_13 rfl rfl (fun h => ?_) (fun h => ?_)
  · have w := w.1 h
    refine E_aload_n 19 dX6_readSide_18 rfl (ac_6.bnd) rfl ?_
    refine E_getL 22 dX6_readSide_19 fl_X6_21 ac_6 rfl (by decide) lay_6_2 rfl ?_
    refine E_iload_n 23 dX6_readSide_22 rfl rfl ?_
    refine E_iload_n 24 dX6_readSide_23 rfl rfl ?_
    refine E_callV (as := [(0, r2), (0, r2)]) 27 dX6_readSide_24 cf_X1_addAny mw_709 mw_710 mw_711 ac_11 (by decide) cl_X1 rfl rfl (Nat.le_of_ble_eq_true rfl) (Nat.le_of_ble_eq_true rfl) ⟨Nat.le_refl _, Nat.le_refl _⟩ rfl (w.mono (fun r6 σ5 w => ?_))
    show XX g true (d + 1) P_X6_readSide 27 [(2, 6), (0, r2)] [] 136 σ5 136 Q
    refine E_iconst 28 dX6_readSide_27 (by decide) rfl ?_
    exact E_zret dX6_readSide_28 rfl rfl (Or.inr rfl) w
  · have w := w.2 h
    refine E_iconst 17 dX6_readSide_16 (by decide) rfl ?_
    exact E_zret dX6_readSide_17 rfl rfl (Or.inl rfl) w
theorem B_X6_readAny_0 {g : PG} {d : Nat} {σ : PS} {Q : Int → PS → Prop}  (w : XX g true d P_X8_number 0 [(2, 1)] [] 136 σ 136 (fun r2 σ1 => XX g true d P_X6_passNumber 0 [(2, 6), (0, 1)] [] 136 σ1 136 (fun r4 σ3 => ((r4 = 0 → Q 0 σ3) ∧ (r4 ≠ 0 → XX g true d P_X6_pass 0 [(2, 6), (0, 276)] [] 136 σ3 136 (fun r6 σ5 => ((r6 ≠ 0 → XX g true d P_X8_number 0 [(2, 1)] [] 136 σ5 136 (fun r8 σ7 => XX g true d P_X6_passNumber 0 [(2, 6), (0, r2)] [] 136 σ7 136 (fun r10 σ9 => ((r10 ≠ 0 → XX g true d P_X1_addAny 0 [(2, 11), (0, r2), (0, r8), (9, 0), (9, 0)] [] 136 σ9 136 (fun _ σ11 => Q 1 σ11)) ∧ (r10 = 0 → Q 0 σ9))))) ∧ (r6 = 0 → Q 0 σ5)))))))) : XX g true (d + 1) P_X6_readAny 0 [(2, 6), (9, 0), (9, 0)] [] 136 σ 136 Q := by
  refine E_aload_n 1 dX6_readAny_0 rfl (ac_6.bnd) rfl ?_
  refine E_getL 4 dX6_readAny_1 fl_X6_25 ac_6 rfl (by decide) lay_6_0 rfl ?_
  refine E_callV (as := []) 7 dX6_readAny_4 cf_X8_number mw_701 mw_702 mw_703 ac_1 (by decide) cl_X8 rfl rfl (Nat.le_of_ble_eq_true rfl) (Nat.le_of_ble_eq_true rfl) ⟨Nat.le_refl _, Nat.le_refl _⟩ rfl (w.mono (fun r2 σ1 w => ?_))
  show XX g true (d + 1) P_X6_readAny 7 [(2, 6), (9, 0), (9, 0)] [(0, r2)] 136 σ1 136 Q
  refine E_istore_n (ls' := [(2, 6), (0, r2), (9, 0)]) 8 dX6_readAny_7 (by decide) rfl rfl ?_
  refine E_aload_n 9 dX6_readAny_8 rfl (ac_6.bnd) rfl ?_
  refine E_iconst 10 dX6_readAny_9 (by decide) rfl ?_
  refine E_callV (as := [(0, 1)]) 13 dX6_readAny_10 cf_X6_passNumber mw_705 mw_707 mw_10 ac_6 (by decide) cl_X6 rfl rfl (Nat.le_of_ble_eq_true rfl) (Nat.le_of_ble_eq_true rfl) ⟨Nat.le_refl _, Nat.le_refl _⟩ rfl (w.mono (fun r4 σ3 w => ?_))
  show XX g true (d + 1) P_X6_readAny 13 [(2, 6), (0, r2), (9, 0)] [(0, r4)] 136 σ3 136 Q
  refine E_if_eq 16 26 dX6_readAny_13 rfl rfl (fun h => ?_) (fun h => ?_)
  · have w := w.1 h
    refine E_iconst 27 dX6_readAny_26 (by decide) rfl ?_
    exact E_zret dX6_readAny_27 rfl rfl (Or.inl rfl) w
  · have w := w.2 h
    refine E_aload_n 17 dX6_readAny_16 rfl (ac_6.bnd) rfl ?_
    refine E_sipush 20 dX6_readAny_17 (by decide) rfl ?_
    refine E_callV (as := [(0, 276)]) 23 dX6_readAny_20 cf_X6_pass mw_693 mw_695 mw_8 ac_6 (by decide) cl_X6 rfl rfl (Nat.le_of_ble_eq_true rfl) (Nat.le_of_ble_eq_true rfl) ⟨Nat.le_refl _, Nat.le_refl _⟩ rfl (w.mono (fun r6 σ5 w => ?_))
    show XX g true (d + 1) P_X6_readAny 23 [(2, 6), (0, r2), (9, 0)] [(0, r6)] 136 σ5 136 Q
    refine E_if_ne 26 28 dX6_readAny_23 rfl rfl (fun h => ?_) (fun h => ?_)
    · have w := w.1 h
      refine E_aload_n 29 dX6_readAny_28 rfl (ac_6.bnd) rfl ?_
      refine E_getL 32 dX6_readAny_29 fl_X6_25 ac_6 rfl (by decide) lay_6_0 rfl ?_
      refine E_callV (as := []) 35 dX6_readAny_32 cf_X8_number mw_701 mw_702 mw_703 ac_1 (by decide) cl_X8 rfl rfl (Nat.le_of_ble_eq_true rfl) (Nat.le_of_ble_eq_true rfl) ⟨Nat.le_refl _, Nat.le_refl _⟩ rfl (w.mono (fun r8 σ7 w => ?_))
      show XX g true (d + 1) P_X6_readAny 35 [(2, 6), (0, r2), (9, 0)] [(0, r8)] 136 σ7 136 Q
      refine E_istore_n (ls' := [(2, 6), (0, r2), (0, r8)]) 36 dX6_readAny_35 (by decide) rfl rfl ?_
      refine E_aload_n 37 dX6_readAny_36 rfl (ac_6.bnd) rfl ?_
      refine E_iload_n 38 dX6_readAny_37 rfl rfl ?_
      refine E_callV (as := [(0, r2)]) 41 dX6_readAny_38 cf_X6_passNumber mw_705 mw_707 mw_10 ac_6 (by decide) cl_X6 rfl rfl (Nat.le_of_ble_eq_true rfl) (Nat.le_of_ble_eq_true rfl) ⟨Nat.le_refl _, Nat.le_refl _⟩ rfl (w.mono (fun r10 σ9 w => ?_))
      show XX g true (d + 1) P_X6_readAny 41 [(2, 6), (0, r2), (0, r8)] [(0, r10)] 136 σ9 136 Q
      refine E_if_ne 44 46 dX6_readAny_41 rfl rfl (fun h => ?_) (fun h => ?_)
      · have w := w.1 h
        refine E_aload_n 47 dX6_readAny_46 rfl (ac_6.bnd) rfl ?_
        refine E_getL 50 dX6_readAny_47 fl_X6_21 ac_6 rfl (by decide) lay_6_2 rfl ?_
        refine E_iload_n 51 dX6_readAny_50 rfl rfl ?_
        refine E_iload_n 52 dX6_readAny_51 rfl rfl ?_
        refine E_callV (as := [(0, r2), (0, r8)]) 55 dX6_readAny_52 cf_X1_addAny mw_709 mw_710 mw_711 ac_11 (by decide) cl_X1 rfl rfl (Nat.le_of_ble_eq_true rfl) (Nat.le_of_ble_eq_true rfl) ⟨Nat.le_refl _, Nat.le_refl _⟩ rfl (w.mono (fun r12 σ11 w => ?_))
        show XX g true (d + 1) P_X6_readAny 55 [(2, 6), (0, r2), (0, r8)] [] 136 σ11 136 Q
        refine E_iconst 56 dX6_readAny_55 (by decide) rfl ?_
        exact E_zret dX6_readAny_56 rfl rfl (Or.inr rfl) w
      · have w := w.2 h
        refine E_iconst 45 dX6_readAny_44 (by decide) rfl ?_
        exact E_zret dX6_readAny_45 rfl rfl (Or.inl rfl) w
    · have w := w.2 h
      refine E_iconst 27 dX6_readAny_26 (by decide) rfl ?_
      exact E_zret dX6_readAny_27 rfl rfl (Or.inl rfl) w
theorem B_X6_passNumber_0 {g : PG} {d : Nat} {σ : PS} {Q : Int → PS → Prop} {x1 : Int}  (w : XX g true d P_X8_kind 0 [(2, 1)] [] 136 σ 136 (fun r2 σ1 => ((r2 = 1 → XX g true d P_X8_number 0 [(2, 1)] [] 136 σ1 136 (fun r4 σ3 => ((r4 < x1 → XX g true d P_X6_stop 0 [(2, 6), (0, 2)] [] 136 σ3 136 (fun r6 σ5 => (r6 = 0 ∨ r6 = 1) ∧ Q r6 σ5)) ∧ (x1 ≤ r4 → XX g true d P_X8_number 0 [(2, 1)] [] 136 σ3 136 (fun r9 σ8 => ((r9 ≤ 8 → XX g true d P_X8_next 0 [(2, 1)] [] 136 σ8 136 (fun _ σ10 => Q 1 σ10)) ∧ (8 < r9 → XX g true d P_X6_stop 0 [(2, 6), (0, 2)] [] 136 σ8 136 (fun r13 σ12 => (r13 = 0 ∨ r13 = 1) ∧ Q r13 σ12)))))))) ∧ (r2 ≠ 1 → XX g true d P_X6_stop 0 [(2, 6), (0, 1)] [] 136 σ1 136 (fun r16 σ15 => (r16 = 0 ∨ r16 = 1) ∧ Q r16 σ15))))) : XX g true (d + 1) P_X6_passNumber 0 [(2, 6), (0, x1)] [] 136 σ 136 Q := by
  refine E_aload_n 1 dX6_passNumber_0 rfl (ac_6.bnd) rfl ?_
  refine E_getL 4 dX6_passNumber_1 fl_X6_25 ac_6 rfl (by decide) lay_6_0 rfl ?_
  refine E_callV (as := []) 7 dX6_passNumber_4 cf_X8_kind mw_666 mw_667 mw_668 ac_1 (by decide) cl_X8 rfl rfl (Nat.le_of_ble_eq_true rfl) (Nat.le_of_ble_eq_true rfl) ⟨Nat.le_refl _, Nat.le_refl _⟩ rfl (w.mono (fun r2 σ1 w => ?_))
  show XX g true (d + 1) P_X6_passNumber 7 [(2, 6), (0, x1)] [(0, r2)] 136 σ1 136 Q
  refine E_iconst 8 dX6_passNumber_7 (by decide) rfl ?_
  refine E_icmp_eq 11 17 dX6_passNumber_8 rfl rfl (fun h => ?_) (fun h => ?_)
  · have w := w.1 h
    refine E_aload_n 18 dX6_passNumber_17 rfl (ac_6.bnd) rfl ?_
    refine E_getL 21 dX6_passNumber_18 fl_X6_25 ac_6 rfl (by decide) lay_6_0 rfl ?_
    refine E_callV (as := []) 24 dX6_passNumber_21 cf_X8_number mw_701 mw_702 mw_703 ac_1 (by decide) cl_X8 rfl rfl (Nat.le_of_ble_eq_true rfl) (Nat.le_of_ble_eq_true rfl) ⟨Nat.le_refl _, Nat.le_refl _⟩ rfl (w.mono (fun r4 σ3 w => ?_))
    show XX g true (d + 1) P_X6_passNumber 24 [(2, 6), (0, x1)] [(0, r4)] 136 σ3 136 Q
    refine E_iload_n 25 dX6_passNumber_24 rfl rfl ?_
    refine E_icmp_lt 28 40 dX6_passNumber_25 rfl rfl (fun h => ?_) (fun h => ?_)
    · have w := w.1 h
      refine E_aload_n 41 dX6_passNumber_40 rfl (ac_6.bnd) rfl ?_
      refine E_iconst 42 dX6_passNumber_41 (by decide) rfl ?_
      refine E_callV (as := [(0, 2)]) 45 dX6_passNumber_42 cf_X6_stop mw_674 mw_676 mw_6 ac_6 (by decide) cl_X6 rfl rfl (Nat.le_of_ble_eq_true rfl) (Nat.le_of_ble_eq_true rfl) ⟨Nat.le_refl _, Nat.le_refl _⟩ rfl (w.mono (fun r6 σ5 w => ?_))
      show XX g true (d + 1) P_X6_passNumber 45 [(2, 6), (0, x1)] [(0, r6)] 136 σ5 136 Q
      obtain ⟨c7, w⟩ := w
      exact E_zret dX6_passNumber_45 rfl rfl c7 w
    · have w := w.2 h
      refine E_aload_n 29 dX6_passNumber_28 rfl (ac_6.bnd) rfl ?_
      refine E_getL 32 dX6_passNumber_29 fl_X6_25 ac_6 rfl (by decide) lay_6_0 rfl ?_
      refine E_callV (as := []) 35 dX6_passNumber_32 cf_X8_number mw_701 mw_702 mw_703 ac_1 (by decide) cl_X8 rfl rfl (Nat.le_of_ble_eq_true rfl) (Nat.le_of_ble_eq_true rfl) ⟨Nat.le_refl _, Nat.le_refl _⟩ rfl (w.mono (fun r9 σ8 w => ?_))
      show XX g true (d + 1) P_X6_passNumber 35 [(2, 6), (0, x1)] [(0, r9)] 136 σ8 136 Q
      refine E_bipush 37 dX6_passNumber_35 (by decide) rfl ?_
      refine E_icmp_le 40 46 dX6_passNumber_37 rfl rfl (fun h => ?_) (fun h => ?_)
      · have w := w.1 h
        refine E_aload_n 47 dX6_passNumber_46 rfl (ac_6.bnd) rfl ?_
        refine E_getL 50 dX6_passNumber_47 fl_X6_25 ac_6 rfl (by decide) lay_6_0 rfl ?_
        refine E_callV (as := []) 53 dX6_passNumber_50 cf_X8_next mw_678 mw_679 mw_680 ac_1 (by decide) cl_X8 rfl rfl (Nat.le_of_ble_eq_true rfl) (Nat.le_of_ble_eq_true rfl) ⟨Nat.le_refl _, Nat.le_refl _⟩ rfl (w.mono (fun r11 σ10 w => ?_))
        show XX g true (d + 1) P_X6_passNumber 53 [(2, 6), (0, x1)] [] 136 σ10 136 Q
        refine E_iconst 54 dX6_passNumber_53 (by decide) rfl ?_
        exact E_zret dX6_passNumber_54 rfl rfl (Or.inr rfl) w
      · have w := w.2 h
        refine E_aload_n 41 dX6_passNumber_40 rfl (ac_6.bnd) rfl ?_
        refine E_iconst 42 dX6_passNumber_41 (by decide) rfl ?_
        refine E_callV (as := [(0, 2)]) 45 dX6_passNumber_42 cf_X6_stop mw_674 mw_676 mw_6 ac_6 (by decide) cl_X6 rfl rfl (Nat.le_of_ble_eq_true rfl) (Nat.le_of_ble_eq_true rfl) ⟨Nat.le_refl _, Nat.le_refl _⟩ rfl (w.mono (fun r13 σ12 w => ?_))
        show XX g true (d + 1) P_X6_passNumber 45 [(2, 6), (0, x1)] [(0, r13)] 136 σ12 136 Q
        obtain ⟨c14, w⟩ := w
        exact E_zret dX6_passNumber_45 rfl rfl c14 w
  · have w := w.2 h
    refine E_aload_n 12 dX6_passNumber_11 rfl (ac_6.bnd) rfl ?_
    refine E_iconst 13 dX6_passNumber_12 (by decide) rfl ?_
    refine E_callV (as := [(0, 1)]) 16 dX6_passNumber_13 cf_X6_stop mw_674 mw_676 mw_6 ac_6 (by decide) cl_X6 rfl rfl (Nat.le_of_ble_eq_true rfl) (Nat.le_of_ble_eq_true rfl) ⟨Nat.le_refl _, Nat.le_refl _⟩ rfl (w.mono (fun r16 σ15 w => ?_))
    show XX g true (d + 1) P_X6_passNumber 16 [(2, 6), (0, x1)] [(0, r16)] 136 σ15 136 Q
    obtain ⟨c17, w⟩ := w
    exact E_zret dX6_passNumber_16 rfl rfl c17 w
theorem B_X6_readShape_0 {g : PG} {d : Nat} {σ : PS} {Q : Int → PS → Prop}  (w : (XX g true (d + 1) P_X6_readShape 6 [(2, 6), (0, 0), (0, 0), (0, 0)] [] 136 σ 136 Q)) : XX g true (d + 1) P_X6_readShape 0 [(2, 6), (9, 0), (9, 0), (9, 0)] [] 136 σ 136 Q := by
  refine E_iconst 1 dX6_readShape_0 (by decide) rfl ?_
  refine E_istore_n (ls' := [(2, 6), (0, 0), (9, 0), (9, 0)]) 2 dX6_readShape_1 (by decide) rfl rfl ?_
  refine E_iconst 3 dX6_readShape_2 (by decide) rfl ?_
  refine E_istore_n (ls' := [(2, 6), (0, 0), (0, 0), (9, 0)]) 4 dX6_readShape_3 (by decide) rfl rfl ?_
  refine E_iconst 5 dX6_readShape_4 (by decide) rfl ?_
  refine E_istore_n (ls' := [(2, 6), (0, 0), (0, 0), (0, 0)]) 6 dX6_readShape_5 (by decide) rfl rfl ?_
  with_reducible exact w
theorem B_X6_readShape_6 {g : PG} {d : Nat} {σ : PS} {Q : Int → PS → Prop} {x1 x2 x3 : Int}  (w : ((8 < x1 → ((x1 ≠ 0 → XX g true d P_X1_addShape 0 [(2, 11), (0, x1), (0, x2), (0, x3), (9, 0)] [] 136 σ 136 (fun _ σ1 => Q 1 σ1)) ∧ (x1 = 0 → XX g true d P_X6_stop 0 [(2, 6), (0, 1)] [] 136 σ 136 (fun r4 σ3 => (r4 = 0 ∨ r4 = 1) ∧ Q r4 σ3)))) ∧ (x1 ≤ 8 → XX g true d P_X8_kind 0 [(2, 1)] [] 136 σ 136 (fun r7 σ6 => XX g true d P_X6_isShapePart 0 [(0, r7)] [] 136 σ6 136 (fun r9 σ8 => ((r9 = 0 → ((x1 ≠ 0 → XX g true d P_X1_addShape 0 [(2, 11), (0, x1), (0, x2), (0, x3), (9, 0)] [] 136 σ8 136 (fun _ σ10 => Q 1 σ10)) ∧ (x1 = 0 → XX g true d P_X6_stop 0 [(2, 6), (0, 1)] [] 136 σ8 136 (fun r13 σ12 => (r13 = 0 ∨ r13 = 1) ∧ Q r13 σ12)))) ∧ (r9 ≠ 0 → ((x1 < 8 → XX g true d P_X8_kind 0 [(2, 1)] [] 136 σ8 136 (fun r16 σ15 => ((r16 ≠ 279 → ∀ y17, y17 = ior (ishl x2 1) 1 → XX g true d P_X8_kind 0 [(2, 1)] [] 136 σ15 136 (fun r19 σ18 => ((r19 ≠ 271 → ∀ y20, y20 = ior (ishl x3 1) 0 → XX g true d P_X8_next 0 [(2, 1)] [] 136 σ18 136 (fun _ σ21 => (XX g true (d + 1) P_X6_readShape 6 [(2, 6), (0, w32 (x1 + 1)), (0, y17), (0, y20)] [] 136 σ21 136 Q))) ∧ (r19 = 271 → ∀ y23, y23 = ior (ishl x3 1) 1 → XX g true d P_X8_next 0 [(2, 1)] [] 136 σ18 136 (fun _ σ24 => (XX g true (d + 1) P_X6_readShape 6 [(2, 6), (0, w32 (x1 + 1)), (0, y17), (0, y23)] [] 136 σ24 136 Q)))))) ∧ (r16 = 279 → ∀ y26, y26 = ior (ishl x2 1) 0 → XX g true d P_X8_kind 0 [(2, 1)] [] 136 σ15 136 (fun r28 σ27 => ((r28 ≠ 271 → ∀ y29, y29 = ior (ishl x3 1) 0 → XX g true d P_X8_next 0 [(2, 1)] [] 136 σ27 136 (fun _ σ30 => (XX g true (d + 1) P_X6_readShape 6 [(2, 6), (0, w32 (x1 + 1)), (0, y26), (0, y29)] [] 136 σ30 136 Q))) ∧ (r28 = 271 → ∀ y32, y32 = ior (ishl x3 1) 1 → XX g true d P_X8_next 0 [(2, 1)] [] 136 σ27 136 (fun _ σ33 => (XX g true (d + 1) P_X6_readShape 6 [(2, 6), (0, w32 (x1 + 1)), (0, y26), (0, y32)] [] 136 σ33 136 Q))))))))) ∧ (8 ≤ x1 → XX g true d P_X6_stop 0 [(2, 6), (0, 3)] [] 136 σ8 136 (fun r36 σ35 => (r36 = 0 ∨ r36 = 1) ∧ Q r36 σ35)))))))))) : XX g true (d + 1) P_X6_readShape 6 [(2, 6), (0, x1), (0, x2), (0, x3)] [] 136 σ 136 Q := by
  refine E_iload_n 7 dX6_readShape_6 rfl rfl ?_
  refine E_bipush 9 dX6_readShape_7 (by decide) rfl ?_
  refine E_icmp_gt 12 96 dX6_readShape_9 rfl rfl (fun h => ?_) (fun h => ?_)
  · have w := w.1 h
    refine E_iload_n 97 dX6_readShape_96 rfl rfl ?_
    refine E_if_ne 100 106 dX6_readShape_97 rfl rfl (fun h => ?_) (fun h => ?_)
    · have w := w.1 h
      refine E_aload_n 107 dX6_readShape_106 rfl (ac_6.bnd) rfl ?_
      refine E_getL 110 dX6_readShape_107 fl_X6_21 ac_6 rfl (by decide) lay_6_2 rfl ?_
      refine E_iload_n 111 dX6_readShape_110 rfl rfl ?_
      refine E_iload_n 112 dX6_readShape_111 rfl rfl ?_
      refine E_iload_n 113 dX6_readShape_112 rfl rfl ?_
      refine E_callV (as := [(0, x1), (0, x2), (0, x3)]) 116 dX6_readShape_113 cf_X1_addShape mw_689 mw_690 mw_691 ac_11 (by decide) cl_X1 rfl rfl (Nat.le_of_ble_eq_true rfl) (Nat.le_of_ble_eq_true rfl) ⟨Nat.le_refl _, Nat.le_refl _⟩ rfl (w.mono (fun r2 σ1 w => ?_))
      show XX g true (d + 1) P_X6_readShape 116 [(2, 6), (0, x1), (0, x2), (0, x3)] [] 136 σ1 136 Q
      refine E_iconst 117 dX6_readShape_116 (by decide) rfl ?_
      exact E_zret dX6_readShape_117 rfl rfl (Or.inr rfl) w
    · have w := w.2 h
      refine E_aload_n 101 dX6_readShape_100 rfl (ac_6.bnd) rfl ?_
      refine E_iconst 102 dX6_readShape_101 (by decide) rfl ?_
      refine E_callV (as := [(0, 1)]) 105 dX6_readShape_102 cf_X6_stop mw_674 mw_676 mw_6 ac_6 (by decide) cl_X6 rfl rfl (Nat.le_of_ble_eq_true rfl) (Nat.le_of_ble_eq_true rfl) ⟨Nat.le_refl _, Nat.le_refl _⟩ rfl (w.mono (fun r4 σ3 w => ?_))
      show XX g true (d + 1) P_X6_readShape 105 [(2, 6), (0, x1), (0, x2), (0, x3)] [(0, r4)] 136 σ3 136 Q
      obtain ⟨c5, w⟩ := w
      exact E_zret dX6_readShape_105 rfl rfl c5 w
  · have w := w.2 h
    refine E_aload_n 13 dX6_readShape_12 rfl (ac_6.bnd) rfl ?_
    refine E_getL 16 dX6_readShape_13 fl_X6_25 ac_6 rfl (by decide) lay_6_0 rfl ?_
    refine E_callV (as := []) 19 dX6_readShape_16 cf_X8_kind mw_666 mw_667 mw_668 ac_1 (by decide) cl_X8 rfl rfl (Nat.le_of_ble_eq_true rfl) (Nat.le_of_ble_eq_true rfl) ⟨Nat.le_refl _, Nat.le_refl _⟩ rfl (w.mono (fun r7 σ6 w => ?_))
    show XX g true (d + 1) P_X6_readShape 19 [(2, 6), (0, x1), (0, x2), (0, x3)] [(0, r7)] 136 σ6 136 Q
    refine E_callS (as := [(0, r7)]) 22 dX6_readShape_19 cf_X6_isShapePart (Or.inl mw_686) mw_687 rfl rfl (Nat.le_of_ble_eq_true rfl) (Nat.le_of_ble_eq_true rfl) ⟨Nat.le_refl _, Nat.le_refl _⟩ rfl (w.mono (fun r9 σ8 w => ?_))
    show XX g true (d + 1) P_X6_readShape 22 [(2, 6), (0, x1), (0, x2), (0, x3)] [(0, r9)] 136 σ8 136 Q
    refine E_if_eq 25 96 dX6_readShape_22 rfl rfl (fun h => ?_) (fun h => ?_)
    · have w := w.1 h
      refine E_iload_n 97 dX6_readShape_96 rfl rfl ?_
      refine E_if_ne 100 106 dX6_readShape_97 rfl rfl (fun h => ?_) (fun h => ?_)
      · have w := w.1 h
        refine E_aload_n 107 dX6_readShape_106 rfl (ac_6.bnd) rfl ?_
        refine E_getL 110 dX6_readShape_107 fl_X6_21 ac_6 rfl (by decide) lay_6_2 rfl ?_
        refine E_iload_n 111 dX6_readShape_110 rfl rfl ?_
        refine E_iload_n 112 dX6_readShape_111 rfl rfl ?_
        refine E_iload_n 113 dX6_readShape_112 rfl rfl ?_
        refine E_callV (as := [(0, x1), (0, x2), (0, x3)]) 116 dX6_readShape_113 cf_X1_addShape mw_689 mw_690 mw_691 ac_11 (by decide) cl_X1 rfl rfl (Nat.le_of_ble_eq_true rfl) (Nat.le_of_ble_eq_true rfl) ⟨Nat.le_refl _, Nat.le_refl _⟩ rfl (w.mono (fun r11 σ10 w => ?_))
        show XX g true (d + 1) P_X6_readShape 116 [(2, 6), (0, x1), (0, x2), (0, x3)] [] 136 σ10 136 Q
        refine E_iconst 117 dX6_readShape_116 (by decide) rfl ?_
        exact E_zret dX6_readShape_117 rfl rfl (Or.inr rfl) w
      · have w := w.2 h
        refine E_aload_n 101 dX6_readShape_100 rfl (ac_6.bnd) rfl ?_
        refine E_iconst 102 dX6_readShape_101 (by decide) rfl ?_
        refine E_callV (as := [(0, 1)]) 105 dX6_readShape_102 cf_X6_stop mw_674 mw_676 mw_6 ac_6 (by decide) cl_X6 rfl rfl (Nat.le_of_ble_eq_true rfl) (Nat.le_of_ble_eq_true rfl) ⟨Nat.le_refl _, Nat.le_refl _⟩ rfl (w.mono (fun r13 σ12 w => ?_))
        show XX g true (d + 1) P_X6_readShape 105 [(2, 6), (0, x1), (0, x2), (0, x3)] [(0, r13)] 136 σ12 136 Q
        obtain ⟨c14, w⟩ := w
        exact E_zret dX6_readShape_105 rfl rfl c14 w
    · have w := w.2 h
      refine E_iload_n 26 dX6_readShape_25 rfl rfl ?_
      refine E_bipush 28 dX6_readShape_26 (by decide) rfl ?_
      refine E_icmp_lt 31 37 dX6_readShape_28 rfl rfl (fun h => ?_) (fun h => ?_)
      · have w := w.1 h
        refine E_iload_n 38 dX6_readShape_37 rfl rfl ?_
        refine E_iconst 39 dX6_readShape_38 (by decide) rfl ?_
        refine E_ishl 40 dX6_readShape_39 rfl ?_
        refine E_aload_n 41 dX6_readShape_40 rfl (ac_6.bnd) rfl ?_
        refine E_getL 44 dX6_readShape_41 fl_X6_25 ac_6 rfl (by decide) lay_6_0 rfl ?_
        refine E_callV (as := []) 47 dX6_readShape_44 cf_X8_kind mw_666 mw_667 mw_668 ac_1 (by decide) cl_X8 rfl rfl (Nat.le_of_ble_eq_true rfl) (Nat.le_of_ble_eq_true rfl) ⟨Nat.le_refl _, Nat.le_refl _⟩ rfl (w.mono (fun r16 σ15 w => ?_))
        show XX g true (d + 1) P_X6_readShape 47 [(2, 6), (0, x1), (0, x2), (0, x3)] [(0, r16), (0, ishl x2 1)] 136 σ15 136 Q
        refine E_sipush 50 dX6_readShape_47 (by decide) rfl ?_
        refine E_icmp_ne 53 57 dX6_readShape_50 rfl rfl (fun h => ?_) (fun h => ?_)
        · have w := w.1 h
          refine E_iconst 58 dX6_readShape_57 (by decide) rfl ?_
          refine E_ior 59 dX6_readShape_58 rfl ?_
          refine E_top (fun y17 hy17 => ?_)
          have w := w y17 hy17
          refine E_istore_n (ls' := [(2, 6), (0, x1), (0, y17), (0, x3)]) 60 dX6_readShape_59 (by decide) rfl rfl ?_
          refine E_iload_n 61 dX6_readShape_60 rfl rfl ?_
          refine E_iconst 62 dX6_readShape_61 (by decide) rfl ?_
          refine E_ishl 63 dX6_readShape_62 rfl ?_
          refine E_aload_n 64 dX6_readShape_63 rfl (ac_6.bnd) rfl ?_
          refine E_getL 67 dX6_readShape_64 fl_X6_25 ac_6 rfl (by decide) lay_6_0 rfl ?_
          refine E_callV (as := []) 70 dX6_readShape_67 cf_X8_kind mw_666 mw_667 mw_668 ac_1 (by decide) cl_X8 rfl rfl (Nat.le_of_ble_eq_true rfl) (Nat.le_of_ble_eq_true rfl) ⟨Nat.le_refl _, Nat.le_refl _⟩ rfl (w.mono (fun r19 σ18 w => ?_))
          show XX g true (d + 1) P_X6_readShape 70 [(2, 6), (0, x1), (0, y17), (0, x3)] [(0, r19), (0, ishl x3 1)] 136 σ18 136 Q
          refine E_sipush 73 dX6_readShape_70 (by decide) rfl ?_
          refine E_icmp_ne 76 80 dX6_readShape_73 rfl rfl (fun h => ?_) (fun h => ?_)
          · have w := w.1 h
            refine E_iconst 81 dX6_readShape_80 (by decide) rfl ?_
            refine E_ior 82 dX6_readShape_81 rfl ?_
            refine E_top (fun y20 hy20 => ?_)
            have w := w y20 hy20
            refine E_istore_n (ls' := [(2, 6), (0, x1), (0, y17), (0, y20)]) 83 dX6_readShape_82 (by decide) rfl rfl ?_
            refine E_iinc (ls' := [(2, 6), (0, w32 (x1 + 1)), (0, y17), (0, y20)]) 86 dX6_readShape_83 (by decide) rfl rfl rfl ?_
            refine E_aload_n 87 dX6_readShape_86 rfl (ac_6.bnd) rfl ?_
            refine E_getL 90 dX6_readShape_87 fl_X6_25 ac_6 rfl (by decide) lay_6_0 rfl ?_
            refine E_callV (as := []) 93 dX6_readShape_90 cf_X8_next mw_678 mw_679 mw_680 ac_1 (by decide) cl_X8 rfl rfl (Nat.le_of_ble_eq_true rfl) (Nat.le_of_ble_eq_true rfl) ⟨Nat.le_refl _, Nat.le_refl _⟩ rfl (w.mono (fun r22 σ21 w => ?_))
            show XX g true (d + 1) P_X6_readShape 93 [(2, 6), (0, w32 (x1 + 1)), (0, y17), (0, y20)] [] 136 σ21 136 Q
            refine E_goto 6 dX6_readShape_93 rfl ?_
            with_reducible exact w
          · have w := w.2 h
            refine E_iconst 77 dX6_readShape_76 (by decide) rfl ?_
            refine E_goto 81 dX6_readShape_77 rfl ?_
            refine E_ior 82 dX6_readShape_81 rfl ?_
            refine E_top (fun y23 hy23 => ?_)
            have w := w y23 hy23
            refine E_istore_n (ls' := [(2, 6), (0, x1), (0, y17), (0, y23)]) 83 dX6_readShape_82 (by decide) rfl rfl ?_
            refine E_iinc (ls' := [(2, 6), (0, w32 (x1 + 1)), (0, y17), (0, y23)]) 86 dX6_readShape_83 (by decide) rfl rfl rfl ?_
            refine E_aload_n 87 dX6_readShape_86 rfl (ac_6.bnd) rfl ?_
            refine E_getL 90 dX6_readShape_87 fl_X6_25 ac_6 rfl (by decide) lay_6_0 rfl ?_
            refine E_callV (as := []) 93 dX6_readShape_90 cf_X8_next mw_678 mw_679 mw_680 ac_1 (by decide) cl_X8 rfl rfl (Nat.le_of_ble_eq_true rfl) (Nat.le_of_ble_eq_true rfl) ⟨Nat.le_refl _, Nat.le_refl _⟩ rfl (w.mono (fun r25 σ24 w => ?_))
            show XX g true (d + 1) P_X6_readShape 93 [(2, 6), (0, w32 (x1 + 1)), (0, y17), (0, y23)] [] 136 σ24 136 Q
            refine E_goto 6 dX6_readShape_93 rfl ?_
            with_reducible exact w
        · have w := w.2 h
          refine E_iconst 54 dX6_readShape_53 (by decide) rfl ?_
          refine E_goto 58 dX6_readShape_54 rfl ?_
          refine E_ior 59 dX6_readShape_58 rfl ?_
          refine E_top (fun y26 hy26 => ?_)
          have w := w y26 hy26
          refine E_istore_n (ls' := [(2, 6), (0, x1), (0, y26), (0, x3)]) 60 dX6_readShape_59 (by decide) rfl rfl ?_
          refine E_iload_n 61 dX6_readShape_60 rfl rfl ?_
          refine E_iconst 62 dX6_readShape_61 (by decide) rfl ?_
          refine E_ishl 63 dX6_readShape_62 rfl ?_
          refine E_aload_n 64 dX6_readShape_63 rfl (ac_6.bnd) rfl ?_
          refine E_getL 67 dX6_readShape_64 fl_X6_25 ac_6 rfl (by decide) lay_6_0 rfl ?_
          refine E_callV (as := []) 70 dX6_readShape_67 cf_X8_kind mw_666 mw_667 mw_668 ac_1 (by decide) cl_X8 rfl rfl (Nat.le_of_ble_eq_true rfl) (Nat.le_of_ble_eq_true rfl) ⟨Nat.le_refl _, Nat.le_refl _⟩ rfl (w.mono (fun r28 σ27 w => ?_))
          show XX g true (d + 1) P_X6_readShape 70 [(2, 6), (0, x1), (0, y26), (0, x3)] [(0, r28), (0, ishl x3 1)] 136 σ27 136 Q
          refine E_sipush 73 dX6_readShape_70 (by decide) rfl ?_
          refine E_icmp_ne 76 80 dX6_readShape_73 rfl rfl (fun h => ?_) (fun h => ?_)
          · have w := w.1 h
            refine E_iconst 81 dX6_readShape_80 (by decide) rfl ?_
            refine E_ior 82 dX6_readShape_81 rfl ?_
            refine E_top (fun y29 hy29 => ?_)
            have w := w y29 hy29
            refine E_istore_n (ls' := [(2, 6), (0, x1), (0, y26), (0, y29)]) 83 dX6_readShape_82 (by decide) rfl rfl ?_
            refine E_iinc (ls' := [(2, 6), (0, w32 (x1 + 1)), (0, y26), (0, y29)]) 86 dX6_readShape_83 (by decide) rfl rfl rfl ?_
            refine E_aload_n 87 dX6_readShape_86 rfl (ac_6.bnd) rfl ?_
            refine E_getL 90 dX6_readShape_87 fl_X6_25 ac_6 rfl (by decide) lay_6_0 rfl ?_
            refine E_callV (as := []) 93 dX6_readShape_90 cf_X8_next mw_678 mw_679 mw_680 ac_1 (by decide) cl_X8 rfl rfl (Nat.le_of_ble_eq_true rfl) (Nat.le_of_ble_eq_true rfl) ⟨Nat.le_refl _, Nat.le_refl _⟩ rfl (w.mono (fun r31 σ30 w => ?_))
            show XX g true (d + 1) P_X6_readShape 93 [(2, 6), (0, w32 (x1 + 1)), (0, y26), (0, y29)] [] 136 σ30 136 Q
            refine E_goto 6 dX6_readShape_93 rfl ?_
            with_reducible exact w
          · have w := w.2 h
            refine E_iconst 77 dX6_readShape_76 (by decide) rfl ?_
            refine E_goto 81 dX6_readShape_77 rfl ?_
            refine E_ior 82 dX6_readShape_81 rfl ?_
            refine E_top (fun y32 hy32 => ?_)
            have w := w y32 hy32
            refine E_istore_n (ls' := [(2, 6), (0, x1), (0, y26), (0, y32)]) 83 dX6_readShape_82 (by decide) rfl rfl ?_
            refine E_iinc (ls' := [(2, 6), (0, w32 (x1 + 1)), (0, y26), (0, y32)]) 86 dX6_readShape_83 (by decide) rfl rfl rfl ?_
            refine E_aload_n 87 dX6_readShape_86 rfl (ac_6.bnd) rfl ?_
            refine E_getL 90 dX6_readShape_87 fl_X6_25 ac_6 rfl (by decide) lay_6_0 rfl ?_
            refine E_callV (as := []) 93 dX6_readShape_90 cf_X8_next mw_678 mw_679 mw_680 ac_1 (by decide) cl_X8 rfl rfl (Nat.le_of_ble_eq_true rfl) (Nat.le_of_ble_eq_true rfl) ⟨Nat.le_refl _, Nat.le_refl _⟩ rfl (w.mono (fun r34 σ33 w => ?_))
            show XX g true (d + 1) P_X6_readShape 93 [(2, 6), (0, w32 (x1 + 1)), (0, y26), (0, y32)] [] 136 σ33 136 Q
            refine E_goto 6 dX6_readShape_93 rfl ?_
            with_reducible exact w
      · have w := w.2 h
        refine E_aload_n 32 dX6_readShape_31 rfl (ac_6.bnd) rfl ?_
        refine E_iconst 33 dX6_readShape_32 (by decide) rfl ?_
        refine E_callV (as := [(0, 3)]) 36 dX6_readShape_33 cf_X6_stop mw_674 mw_676 mw_6 ac_6 (by decide) cl_X6 rfl rfl (Nat.le_of_ble_eq_true rfl) (Nat.le_of_ble_eq_true rfl) ⟨Nat.le_refl _, Nat.le_refl _⟩ rfl (w.mono (fun r36 σ35 w => ?_))
        show XX g true (d + 1) P_X6_readShape 36 [(2, 6), (0, x1), (0, x2), (0, x3)] [(0, r36)] 136 σ35 136 Q
        obtain ⟨c37, w⟩ := w
        exact E_zret dX6_readShape_36 rfl rfl c37 w
theorem B_X6_isShapePart_0 {g : PG} {d : Nat} {σ : PS} {Q : Int → PS → Prop} {x0 : Int}  (w : ((x0 = 271 → Q 1 σ) ∧ (x0 ≠ 271 → ((x0 = 278 → Q 1 σ) ∧ (x0 ≠ 278 → ((x0 ≠ 279 → Q 0 σ) ∧ (x0 = 279 → Q 1 σ))))))) : XX g true d P_X6_isShapePart 0 [(0, x0)] [] 136 σ 136 Q := by
  refine E_iload_n 1 dX6_isShapePart_0 rfl rfl ?_
  refine E_sipush 4 dX6_isShapePart_1 (by decide) rfl ?_
  refine E_icmp_eq 7 21 dX6_isShapePart_4 rfl rfl (fun h => ?_) (fun h => ?_)
  · have w := w.1 h
    refine E_iconst 22 dX6_isShapePart_21 (by decide) rfl ?_
    refine E_goto 26 dX6_isShapePart_22 rfl ?_
    exact E_zret dX6_isShapePart_26 rfl rfl (Or.inr rfl) w
  · have w := w.2 h
    refine E_iload_n 8 dX6_isShapePart_7 rfl rfl ?_
    refine E_sipush 11 dX6_isShapePart_8 (by decide) rfl ?_
    refine E_icmp_eq 14 21 dX6_isShapePart_11 rfl rfl (fun h => ?_) (fun h => ?_)
    · have w := w.1 h
      refine E_iconst 22 dX6_isShapePart_21 (by decide) rfl ?_
      refine E_goto 26 dX6_isShapePart_22 rfl ?_
      exact E_zret dX6_isShapePart_26 rfl rfl (Or.inr rfl) w
    · have w := w.2 h
      refine E_iload_n 15 dX6_isShapePart_14 rfl rfl ?_
      refine E_sipush 18 dX6_isShapePart_15 (by decide) rfl ?_
      refine E_icmp_ne 21 25 dX6_isShapePart_18 rfl rfl (fun h => ?_) (fun h => ?_)
      · have w := w.1 h
        refine E_iconst 26 dX6_isShapePart_25 (by decide) rfl ?_
        exact E_zret dX6_isShapePart_26 rfl rfl (Or.inl rfl) w
      · have w := w.2 h
        refine E_iconst 22 dX6_isShapePart_21 (by decide) rfl ?_
        refine E_goto 26 dX6_isShapePart_22 rfl ?_
        exact E_zret dX6_isShapePart_26 rfl rfl (Or.inr rfl) w
theorem B_X7_begin_0 {g : PG} {d : Nat} {σ : PS} {Q : Int → PS → Prop} {x1 q0 : Int} (hq0 : RowAt q0) (w : XX g true d P_J7_fill_53178 0 [(2, q0 + 1), (0, 0), (9, 0), (9, 0)] [] 136 (su (su (su (su (su σ q0 0 x1) q0 5 0) q0 6 0) q0 15 0) q0 16 (-1)) 136 (fun _ σ1 => XX g true d P_J7_fill_53178 0 [(2, q0 + 2), (0, 0), (9, 0), (9, 0)] [] 136 σ1 136 (fun _ σ3 => XX g true d P_J7_fill_53178 0 [(2, q0 + 3), (0, (-1)), (9, 0), (9, 0)] [] 136 σ3 136 (fun _ σ5 => XX g true d P_J7_fill_53178 0 [(2, q0 + 4), (0, 0), (9, 0), (9, 0)] [] 136 σ5 136 (fun _ σ7 => Q 0 σ7))))) : XX g true (d + 1) P_X7_begin 0 [(2, q0), (0, x1)] [] 136 σ 136 Q := by
  refine E_aload_n 1 dX7_begin_0 rfl (RowB hq0) rfl ?_
  refine E_iload_n 2 dX7_begin_1 rfl rfl ?_
  refine E_putI 0 5 dX7_begin_2 fl_X7_33 (RowF0 hq0) rfl (by decide) (Or.inl rfl) rfl rfl ?_
  refine E_aload_n 6 dX7_begin_5 rfl (RowB hq0) rfl ?_
  refine E_lconst (x := 0) 7 dX7_begin_6 rfl rfl ?_
  refine E_putJ 5 10 dX7_begin_7 fl_X7_37 (RowF0 hq0) rfl (by decide) (Or.inl rfl) rfl rfl ?_
  refine E_aload_n 11 dX7_begin_10 rfl (RowB hq0) rfl ?_
  refine E_lconst (x := 0) 12 dX7_begin_11 rfl rfl ?_
  refine E_putJ 6 15 dX7_begin_12 fl_X7_41 (RowF0 hq0) rfl (by decide) (Or.inl rfl) rfl rfl ?_
  refine E_aload_n 16 dX7_begin_15 rfl (RowB hq0) rfl ?_
  refine E_iconst 17 dX7_begin_16 (by decide) rfl ?_
  refine E_putI 15 20 dX7_begin_17 fl_X7_44 (RowF0 hq0) rfl (by decide) (Or.inl rfl) rfl rfl ?_
  refine E_aload_n 21 dX7_begin_20 rfl (RowB hq0) rfl ?_
  refine E_iconst 22 dX7_begin_21 (by decide) rfl ?_
  refine E_putI 16 25 dX7_begin_22 fl_X7_47 (RowF0 hq0) rfl (by decide) (Or.inl rfl) rfl rfl ?_
  refine E_aload_n 26 dX7_begin_25 rfl (RowB hq0) rfl ?_
  refine E_getL 29 dX7_begin_26 fl_X7_11 (RowF0 hq0) rfl (by decide) (RowL1 hq0) rfl ?_
  refine E_iconst 30 dX7_begin_29 (by decide) rfl ?_
  refine E_callS (as := [(2, q0 + 1), (0, 0)]) 33 dX7_begin_30 cf_J7_fill_53178 (Or.inl mw_484) mw_211 rfl rfl (Nat.le_of_ble_eq_true rfl) (Nat.le_of_ble_eq_true rfl) ⟨Nat.le_refl _, Nat.le_refl _⟩ rfl (w.mono (fun r2 σ1 w => ?_))
  show XX g true (d + 1) P_X7_begin 33 [(2, q0), (0, x1)] [] 136 σ1 136 Q
  refine E_aload_n 34 dX7_begin_33 rfl (RowB hq0) rfl ?_
  refine E_getL 37 dX7_begin_34 fl_X7_15 (RowF0 hq0) rfl (by decide) (RowL2 hq0) rfl ?_
  refine E_iconst 38 dX7_begin_37 (by decide) rfl ?_
  refine E_callS (as := [(2, q0 + 2), (0, 0)]) 41 dX7_begin_38 cf_J7_fill_53178 (Or.inl mw_484) mw_211 rfl rfl (Nat.le_of_ble_eq_true rfl) (Nat.le_of_ble_eq_true rfl) ⟨Nat.le_refl _, Nat.le_refl _⟩ rfl (w.mono (fun r4 σ3 w => ?_))
  show XX g true (d + 1) P_X7_begin 41 [(2, q0), (0, x1)] [] 136 σ3 136 Q
  refine E_aload_n 42 dX7_begin_41 rfl (RowB hq0) rfl ?_
  refine E_getL 45 dX7_begin_42 fl_X7_18 (RowF0 hq0) rfl (by decide) (RowL3 hq0) rfl ?_
  refine E_iconst 46 dX7_begin_45 (by decide) rfl ?_
  refine E_callS (as := [(2, q0 + 3), (0, (-1))]) 49 dX7_begin_46 cf_J7_fill_53178 (Or.inl mw_484) mw_211 rfl rfl (Nat.le_of_ble_eq_true rfl) (Nat.le_of_ble_eq_true rfl) ⟨Nat.le_refl _, Nat.le_refl _⟩ rfl (w.mono (fun r6 σ5 w => ?_))
  show XX g true (d + 1) P_X7_begin 49 [(2, q0), (0, x1)] [] 136 σ5 136 Q
  refine E_aload_n 50 dX7_begin_49 rfl (RowB hq0) rfl ?_
  refine E_getL 53 dX7_begin_50 fl_X7_21 (RowF0 hq0) rfl (by decide) (RowL4 hq0) rfl ?_
  refine E_iconst 54 dX7_begin_53 (by decide) rfl ?_
  refine E_callS (as := [(2, q0 + 4), (0, 0)]) 57 dX7_begin_54 cf_J7_fill_53178 (Or.inl mw_484) mw_211 rfl rfl (Nat.le_of_ble_eq_true rfl) (Nat.le_of_ble_eq_true rfl) ⟨Nat.le_refl _, Nat.le_refl _⟩ rfl (w.mono (fun r8 σ7 w => ?_))
  show XX g true (d + 1) P_X7_begin 57 [(2, q0), (0, x1)] [] 136 σ7 136 Q
  exact E_vret dX7_begin_57 rfl rfl w
theorem B_X7_has_0 {g : PG} {d : Nat} {σ : PS} {Q : Int → PS → Prop} {x1 q0 : Int} (hq0 : RowAt q0) (w : ((x1 < 0 → Q 0 σ) ∧ (0 ≤ x1 → ((σ q0 0 ≤ x1 → Q 0 σ) ∧ (x1 < σ q0 0 → Q 1 σ))))) : XX g true d P_X7_has 0 [(2, q0), (0, x1)] [] 136 σ 136 Q := by
  refine E_iload_n 1 dX7_has_0 rfl rfl ?_
  refine E_if_lt 4 16 dX7_has_1 rfl rfl (fun h => ?_) (fun h => ?_)
  · have w := w.1 h
    refine E_iconst 17 dX7_has_16 (by decide) rfl ?_
    exact E_zret dX7_has_17 rfl rfl (Or.inl rfl) w
  · have w := w.2 h
    refine E_iload_n 5 dX7_has_4 rfl rfl ?_
    refine E_aload_n 6 dX7_has_5 rfl (RowB hq0) rfl ?_
    refine E_get 0 9 dX7_has_6 fl_X7_33 (RowF0 hq0) rfl (by decide) rfl rfl ?_
    refine E_icmp_ge 12 16 dX7_has_9 rfl rfl (fun h => ?_) (fun h => ?_)
    · have w := w.1 h
      refine E_iconst 17 dX7_has_16 (by decide) rfl ?_
      exact E_zret dX7_has_17 rfl rfl (Or.inl rfl) w
    · have w := w.2 h
      refine E_iconst 13 dX7_has_12 (by decide) rfl ?_
      refine E_goto 17 dX7_has_13 rfl ?_
      exact E_zret dX7_has_17 rfl rfl (Or.inr rfl) w
theorem B_X7_lookAt_0 {g : PG} {d : Nat} {σ : PS} {Q : Int → PS → Prop} {x1 q0 : Int} (hq0 : RowAt q0) (w : (0 ≤ x1 ∧ x1 < 60) ∧ Q 0 (su (su σ (q0 + 3) x1 (σ q0 11)) q0 6 (lor (land (σ q0 6) (lxor (lshl 1 x1) (-1))) (land (σ q0 5) (lshl 1 x1))))) : XX g true d P_X7_lookAt 0 [(2, q0), (0, x1)] [] 136 σ 136 Q := by
  refine E_aload_n 1 dX7_lookAt_0 rfl (RowB hq0) rfl ?_
  refine E_getL 4 dX7_lookAt_1 fl_X7_18 (RowF0 hq0) rfl (by decide) (RowL3 hq0) rfl ?_
  refine E_iload_n 5 dX7_lookAt_4 rfl rfl ?_
  refine E_aload_n 6 dX7_lookAt_5 rfl (RowB hq0) rfl ?_
  refine E_get 11 9 dX7_lookAt_6 fl_X7_56 (RowF0 hq0) rfl (by decide) rfl rfl ?_
  obtain ⟨c1, w⟩ := w
  refine E_iast 10 dX7_lookAt_9 (RowF3 hq0) c1 rfl ?_
  refine E_aload_n 11 dX7_lookAt_10 rfl (RowB hq0) rfl ?_
  refine E_aload_n 12 dX7_lookAt_11 rfl (RowB hq0) rfl ?_
  refine E_get 6 15 dX7_lookAt_12 fl_X7_41 (RowF0 hq0) rfl (by decide) rfl rfl ?_
  refine E_conv (su_ne (Or.inl (by omega))) ?_
  refine E_lconst (x := 1) 16 dX7_lookAt_15 rfl rfl ?_
  refine E_iload_n 17 dX7_lookAt_16 rfl rfl ?_
  refine E_lshl 18 dX7_lookAt_17 rfl ?_
  refine E_ldc2_w (x := (-1)) 21 dX7_lookAt_18 mw_858 (by decide) (by unfold in64; decide) rfl ?_
  refine E_lxor 22 dX7_lookAt_21 rfl ?_
  refine E_land 23 dX7_lookAt_22 rfl ?_
  refine E_aload_n 24 dX7_lookAt_23 rfl (RowB hq0) rfl ?_
  refine E_get 5 27 dX7_lookAt_24 fl_X7_37 (RowF0 hq0) rfl (by decide) rfl rfl ?_
  refine E_conv (su_ne (Or.inl (by omega))) ?_
  refine E_lconst (x := 1) 28 dX7_lookAt_27 rfl rfl ?_
  refine E_iload_n 29 dX7_lookAt_28 rfl rfl ?_
  refine E_lshl 30 dX7_lookAt_29 rfl ?_
  refine E_land 31 dX7_lookAt_30 rfl ?_
  refine E_lor 32 dX7_lookAt_31 rfl ?_
  refine E_putJ 6 35 dX7_lookAt_32 fl_X7_41 (RowF0 hq0) rfl (by decide) (Or.inl rfl) rfl rfl ?_
  exact E_vret dX7_lookAt_35 rfl rfl w
theorem B_X7_draw_0 {g : PG} {d : Nat} {σ : PS} {Q : Int → PS → Prop} {x1 q0 : Int} (hq0 : RowAt q0) (w : ((x1 ≤ 0 → Q 0 (su σ q0 10 (w32 ((w32 (1664525 * (σ q0 10))) + 1013904223)))) ∧ (0 < x1 → x1 ≠ 0 ∧ Q (irem (iushr (w32 ((w32 (1664525 * (σ q0 10))) + 1013904223)) 8) x1) (su σ q0 10 (w32 ((w32 (1664525 * (σ q0 10))) + 1013904223)))))) : XX g true d P_X7_draw 0 [(2, q0), (0, x1)] [] 136 σ 136 Q := by
  refine E_aload_n 1 dX7_draw_0 rfl (RowB hq0) rfl ?_
  refine E_ldc (x := 1664525) 3 dX7_draw_1 mw_892 rfl (by unfold in32; decide) rfl ?_
  refine E_aload_n 4 dX7_draw_3 rfl (RowB hq0) rfl ?_
  refine E_get 10 7 dX7_draw_4 fl_X7_62 (RowF0 hq0) rfl (by decide) rfl rfl ?_
  refine E_imul 8 dX7_draw_7 rfl ?_
  refine E_ldc (x := 1013904223) 10 dX7_draw_8 mw_893 rfl (by unfold in32; decide) rfl ?_
  refine E_iadd 11 dX7_draw_10 rfl ?_
  refine E_putI 10 14 dX7_draw_11 fl_X7_62 (RowF0 hq0) rfl (by decide) (Or.inl rfl) rfl rfl ?_
  refine E_iload_n 15 dX7_draw_14 rfl rfl ?_
  refine E_if_le 18 30 dX7_draw_15 rfl rfl (fun h => ?_) (fun h => ?_)
  · have w := w.1 h
    refine E_iconst 31 dX7_draw_30 (by decide) rfl ?_
    exact E_iret dX7_draw_31 rfl rfl w
  · have w := w.2 h
    refine E_aload_n 19 dX7_draw_18 rfl (RowB hq0) rfl ?_
    refine E_get 10 22 dX7_draw_19 fl_X7_62 (RowF0 hq0) rfl (by decide) rfl rfl ?_
    refine E_conv (su_eq) ?_
    refine E_bipush 24 dX7_draw_22 (by decide) rfl ?_
    refine E_iushr 25 dX7_draw_24 rfl ?_
    refine E_iload_n 26 dX7_draw_25 rfl rfl ?_
    obtain ⟨c1, w⟩ := w
    refine E_irem 27 dX7_draw_26 c1 rfl ?_
    refine E_goto 31 dX7_draw_27 rfl ?_
    exact E_iret dX7_draw_31 rfl rfl w
theorem B_X7_copy_0 {g : PG} {d : Nat} {σ : PS} {Q : Int → PS → Prop} {q0 q1 : Int} (hq0 : RowAt q0) (hq1 : RowAt q1) (w : ((0 : Int) ≤ 0 ∧ (0 : Int) ≤ 60 ∧ (0 : Int) + 60 ≤ 60) ∧ ((0 : Int) ≤ 0 ∧ (0 : Int) + 60 ≤ 60) ∧ ((0 : Int) ≤ 0 ∧ (0 : Int) ≤ 6 ∧ (0 : Int) + 6 ≤ 6) ∧ ((0 : Int) ≤ 0 ∧ (0 : Int) + 6 ≤ 6) ∧ ((0 : Int) ≤ 0 ∧ (0 : Int) ≤ 8 ∧ (0 : Int) + 8 ≤ 8) ∧ ((0 : Int) ≤ 0 ∧ (0 : Int) + 8 ≤ 8) ∧ Q 0 (su (su (su (su (su (su (su (cpS (cpS (cpS (su (su (cpS (cpS (cpS (cpS (su σ q0 0 (σ q1 0)) (q1 + 1) 0 (q0 + 1) 0 60) (q1 + 2) 0 (q0 + 2) 0 60) (q1 + 3) 0 (q0 + 3) 0 60) (q1 + 4) 0 (q0 + 4) 0 60) q0 5 ((cpS (cpS (cpS (cpS (su σ q0 0 (σ q1 0)) (q1 + 1) 0 (q0 + 1) 0 60) (q1 + 2) 0 (q0 + 2) 0 60) (q1 + 3) 0 (q0 + 3) 0 60) (q1 + 4) 0 (q0 + 4) 0 60) q1 5)) q0 6 ((su (cpS (cpS (cpS (cpS (su σ q0 0 (σ q1 0)) (q1 + 1) 0 (q0 + 1) 0 60) (q1 + 2) 0 (q0 + 2) 0 60) (q1 + 3) 0 (q0 + 3) 0 60) (q1 + 4) 0 (q0 + 4) 0 60) q0 5 ((cpS (cpS (cpS (cpS (su σ q0 0 (σ q1 0)) (q1 + 1) 0 (q0 + 1) 0 60) (q1 + 2) 0 (q0 + 2) 0 60) (q1 + 3) 0 (q0 + 3) 0 60) (q1 + 4) 0 (q0 + 4) 0 60) q1 5)) q1 6)) (q1 + 5) 0 (q0 + 5) 0 6) (q1 + 6) 0 (q0 + 6) 0 6) (q1 + 7) 0 (q0 + 7) 0 8) q0 10 ((cpS (cpS (cpS (su (su (cpS (cpS (cpS (cpS (su σ q0 0 (σ q1 0)) (q1 + 1) 0 (q0 + 1) 0 60) (q1 + 2) 0 (q0 + 2) 0 60) (q1 + 3) 0 (q0 + 3) 0 60) (q1 + 4) 0 (q0 + 4) 0 60) q0 5 ((cpS (cpS (cpS (cpS (su σ q0 0 (σ q1 0)) (q1 + 1) 0 (q0 + 1) 0 60) (q1 + 2) 0 (q0 + 2) 0 60) (q1 + 3) 0 (q0 + 3) 0 60) (q1 + 4) 0 (q0 + 4) 0 60) q1 5)) q0 6 ((su (cpS (cpS (cpS (cpS (su σ q0 0 (σ q1 0)) (q1 + 1) 0 (q0 + 1) 0 60) (q1 + 2) 0 (q0 + 2) 0 60) (q1 + 3) 0 (q0 + 3) 0 60) (q1 + 4) 0 (q0 + 4) 0 60) q0 5 ((cpS (cpS (cpS (cpS (su σ q0 0 (σ q1 0)) (q1 + 1) 0 (q0 + 1) 0 60) (q1 + 2) 0 (q0 + 2) 0 60) (q1 + 3) 0 (q0 + 3) 0 60) (q1 + 4) 0 (q0 + 4) 0 60) q1 5)) q1 6)) (q1 + 5) 0 (q0 + 5) 0 6) (q1 + 6) 0 (q0 + 6) 0 6) (q1 + 7) 0 (q0 + 7) 0 8) q1 10)) q0 11 ((su (cpS (cpS (cpS (su (su (cpS (cpS (cpS (cpS (su σ q0 0 (σ q1 0)) (q1 + 1) 0 (q0 + 1) 0 60) (q1 + 2) 0 (q0 + 2) 0 60) (q1 + 3) 0 (q0 + 3) 0 60) (q1 + 4) 0 (q0 + 4) 0 60) q0 5 ((cpS (cpS (cpS (cpS (su σ q0 0 (σ q1 0)) (q1 + 1) 0 (q0 + 1) 0 60) (q1 + 2) 0 (q0 + 2) 0 60) (q1 + 3) 0 (q0 + 3) 0 60) (q1 + 4) 0 (q0 + 4) 0 60) q1 5)) q0 6 ((su (cpS (cpS (cpS (cpS (su σ q0 0 (σ q1 0)) (q1 + 1) 0 (q0 + 1) 0 60) (q1 + 2) 0 (q0 + 2) 0 60) (q1 + 3) 0 (q0 + 3) 0 60) (q1 + 4) 0 (q0 + 4) 0 60) q0 5 ((cpS (cpS (cpS (cpS (su σ q0 0 (σ q1 0)) (q1 + 1) 0 (q0 + 1) 0 60) (q1 + 2) 0 (q0 + 2) 0 60) (q1 + 3) 0 (q0 + 3) 0 60) (q1 + 4) 0 (q0 + 4) 0 60) q1 5)) q1 6)) (q1 + 5) 0 (q0 + 5) 0 6) (q1 + 6) 0 (q0 + 6) 0 6) (q1 + 7) 0 (q0 + 7) 0 8) q0 10 ((cpS (cpS (cpS (su (su (cpS (cpS (cpS (cpS (su σ q0 0 (σ q1 0)) (q1 + 1) 0 (q0 + 1) 0 60) (q1 + 2) 0 (q0 + 2) 0 60) (q1 + 3) 0 (q0 + 3) 0 60) (q1 + 4) 0 (q0 + 4) 0 60) q0 5 ((cpS (cpS (cpS (cpS (su σ q0 0 (σ q1 0)) (q1 + 1) 0 (q0 + 1) 0 60) (q1 + 2) 0 (q0 + 2) 0 60) (q1 + 3) 0 (q0 + 3) 0 60) (q1 + 4) 0 (q0 + 4) 0 60) q1 5)) q0 6 ((su (cpS (cpS (cpS (cpS (su σ q0 0 (σ q1 0)) (q1 + 1) 0 (q0 + 1) 0 60) (q1 + 2) 0 (q0 + 2) 0 60) (q1 + 3) 0 (q0 + 3) 0 60) (q1 + 4) 0 (q0 + 4) 0 60) q0 5 ((cpS (cpS (cpS (cpS (su σ q0 0 (σ q1 0)) (q1 + 1) 0 (q0 + 1) 0 60) (q1 + 2) 0 (q0 + 2) 0 60) (q1 + 3) 0 (q0 + 3) 0 60) (q1 + 4) 0 (q0 + 4) 0 60) q1 5)) q1 6)) (q1 + 5) 0 (q0 + 5) 0 6) (q1 + 6) 0 (q0 + 6) 0 6) (q1 + 7) 0 (q0 + 7) 0 8) q1 10)) q1 11)) q0 12 ((su (su (cpS (cpS (cpS (su (su (cpS (cpS (cpS (cpS (su σ q0 0 (σ q1 0)) (q1 + 1) 0 (q0 + 1) 0 60) (q1 + 2) 0 (q0 + 2) 0 60) (q1 + 3) 0 (q0 + 3) 0 60) (q1 + 4) 0 (q0 + 4) 0 60) q0 5 ((cpS (cpS (cpS (cpS (su σ q0 0 (σ q1 0)) (q1 + 1) 0 (q0 + 1) 0 60) (q1 + 2) 0 (q0 + 2) 0 60) (q1 + 3) 0 (q0 + 3) 0 60) (q1 + 4) 0 (q0 + 4) 0 60) q1 5)) q0 6 ((su (cpS (cpS (cpS (cpS (su σ q0 0 (σ q1 0)) (q1 + 1) 0 (q0 + 1) 0 60) (q1 + 2) 0 (q0 + 2) 0 60) (q1 + 3) 0 (q0 + 3) 0 60) (q1 + 4) 0 (q0 + 4) 0 60) q0 5 ((cpS (cpS (cpS (cpS (su σ q0 0 (σ q1 0)) (q1 + 1) 0 (q0 + 1) 0 60) (q1 + 2) 0 (q0 + 2) 0 60) (q1 + 3) 0 (q0 + 3) 0 60) (q1 + 4) 0 (q0 + 4) 0 60) q1 5)) q1 6)) (q1 + 5) 0 (q0 + 5) 0 6) (q1 + 6) 0 (q0 + 6) 0 6) (q1 + 7) 0 (q0 + 7) 0 8) q0 10 ((cpS (cpS (cpS (su (su (cpS (cpS (cpS (cpS (su σ q0 0 (σ q1 0)) (q1 + 1) 0 (q0 + 1) 0 60) (q1 + 2) 0 (q0 + 2) 0 60) (q1 + 3) 0 (q0 + 3) 0 60) (q1 + 4) 0 (q0 + 4) 0 60) q0 5 ((cpS (cpS (cpS (cpS (su σ q0 0 (σ q1 0)) (q1 + 1) 0 (q0 + 1) 0 60) (q1 + 2) 0 (q0 + 2) 0 60) (q1 + 3) 0 (q0 + 3) 0 60) (q1 + 4) 0 (q0 + 4) 0 60) q1 5)) q0 6 ((su (cpS (cpS (cpS (cpS (su σ q0 0 (σ q1 0)) (q1 + 1) 0 (q0 + 1) 0 60) (q1 + 2) 0 (q0 + 2) 0 60) (q1 + 3) 0 (q0 + 3) 0 60) (q1 + 4) 0 (q0 + 4) 0 60) q0 5 ((cpS (cpS (cpS (cpS (su σ q0 0 (σ q1 0)) (q1 + 1) 0 (q0 + 1) 0 60) (q1 + 2) 0 (q0 + 2) 0 60) (q1 + 3) 0 (q0 + 3) 0 60) (q1 + 4) 0 (q0 + 4) 0 60) q1 5)) q1 6)) (q1 + 5) 0 (q0 + 5) 0 6) (q1 + 6) 0 (q0 + 6) 0 6) (q1 + 7) 0 (q0 + 7) 0 8) q1 10)) q0 11 ((su (cpS (cpS (cpS (su (su (cpS (cpS (cpS (cpS (su σ q0 0 (σ q1 0)) (q1 + 1) 0 (q0 + 1) 0 60) (q1 + 2) 0 (q0 + 2) 0 60) (q1 + 3) 0 (q0 + 3) 0 60) (q1 + 4) 0 (q0 + 4) 0 60) q0 5 ((cpS (cpS (cpS (cpS (su σ q0 0 (σ q1 0)) (q1 + 1) 0 (q0 + 1) 0 60) (q1 + 2) 0 (q0 + 2) 0 60) (q1 + 3) 0 (q0 + 3) 0 60) (q1 + 4) 0 (q0 + 4) 0 60) q1 5)) q0 6 ((su (cpS (cpS (cpS (cpS (su σ q0 0 (σ q1 0)) (q1 + 1) 0 (q0 + 1) 0 60) (q1 + 2) 0 (q0 + 2) 0 60) (q1 + 3) 0 (q0 + 3) 0 60) (q1 + 4) 0 (q0 + 4) 0 60) q0 5 ((cpS (cpS (cpS (cpS (su σ q0 0 (σ q1 0)) (q1 + 1) 0 (q0 + 1) 0 60) (q1 + 2) 0 (q0 + 2) 0 60) (q1 + 3) 0 (q0 + 3) 0 60) (q1 + 4) 0 (q0 + 4) 0 60) q1 5)) q1 6)) (q1 + 5) 0 (q0 + 5) 0 6) (q1 + 6) 0 (q0 + 6) 0 6) (q1 + 7) 0 (q0 + 7) 0 8) q0 10 ((cpS (cpS (cpS (su (su (cpS (cpS (cpS (cpS (su σ q0 0 (σ q1 0)) (q1 + 1) 0 (q0 + 1) 0 60) (q1 + 2) 0 (q0 + 2) 0 60) (q1 + 3) 0 (q0 + 3) 0 60) (q1 + 4) 0 (q0 + 4) 0 60) q0 5 ((cpS (cpS (cpS (cpS (su σ q0 0 (σ q1 0)) (q1 + 1) 0 (q0 + 1) 0 60) (q1 + 2) 0 (q0 + 2) 0 60) (q1 + 3) 0 (q0 + 3) 0 60) (q1 + 4) 0 (q0 + 4) 0 60) q1 5)) q0 6 ((su (cpS (cpS (cpS (cpS (su σ q0 0 (σ q1 0)) (q1 + 1) 0 (q0 + 1) 0 60) (q1 + 2) 0 (q0 + 2) 0 60) (q1 + 3) 0 (q0 + 3) 0 60) (q1 + 4) 0 (q0 + 4) 0 60) q0 5 ((cpS (cpS (cpS (cpS (su σ q0 0 (σ q1 0)) (q1 + 1) 0 (q0 + 1) 0 60) (q1 + 2) 0 (q0 + 2) 0 60) (q1 + 3) 0 (q0 + 3) 0 60) (q1 + 4) 0 (q0 + 4) 0 60) q1 5)) q1 6)) (q1 + 5) 0 (q0 + 5) 0 6) (q1 + 6) 0 (q0 + 6) 0 6) (q1 + 7) 0 (q0 + 7) 0 8) q1 10)) q1 11)) q1 12)) q0 13 ((su (su (su (cpS (cpS (cpS (su (su (cpS (cpS (cpS (cpS (su σ q0 0 (σ q1 0)) (q1 + 1) 0 (q0 + 1) 0 60) (q1 + 2) 0 (q0 + 2) 0 60) (q1 + 3) 0 (q0 + 3) 0 60) (q1 + 4) 0 (q0 + 4) 0 60) q0 5 ((cpS (cpS (cpS (cpS (su σ q0 0 (σ q1 0)) (q1 + 1) 0 (q0 + 1) 0 60) (q1 + 2) 0 (q0 + 2) 0 60) (q1 + 3) 0 (q0 + 3) 0 60) (q1 + 4) 0 (q0 + 4) 0 60) q1 5)) q0 6 ((su (cpS (cpS (cpS (cpS (su σ q0 0 (σ q1 0)) (q1 + 1) 0 (q0 + 1) 0 60) (q1 + 2) 0 (q0 + 2) 0 60) (q1 + 3) 0 (q0 + 3) 0 60) (q1 + 4) 0 (q0 + 4) 0 60) q0 5 ((cpS (cpS (cpS (cpS (su σ q0 0 (σ q1 0)) (q1 + 1) 0 (q0 + 1) 0 60) (q1 + 2) 0 (q0 + 2) 0 60) (q1 + 3) 0 (q0 + 3) 0 60) (q1 + 4) 0 (q0 + 4) 0 60) q1 5)) q1 6)) (q1 + 5) 0 (q0 + 5) 0 6) (q1 + 6) 0 (q0 + 6) 0 6) (q1 + 7) 0 (q0 + 7) 0 8) q0 10 ((cpS (cpS (cpS (su (su (cpS (cpS (cpS (cpS (su σ q0 0 (σ q1 0)) (q1 + 1) 0 (q0 + 1) 0 60) (q1 + 2) 0 (q0 + 2) 0 60) (q1 + 3) 0 (q0 + 3) 0 60) (q1 + 4) 0 (q0 + 4) 0 60) q0 5 ((cpS (cpS (cpS (cpS (su σ q0 0 (σ q1 0)) (q1 + 1) 0 (q0 + 1) 0 60) (q1 + 2) 0 (q0 + 2) 0 60) (q1 + 3) 0 (q0 + 3) 0 60) (q1 + 4) 0 (q0 + 4) 0 60) q1 5)) q0 6 ((su (cpS (cpS (cpS (cpS (su σ q0 0 (σ q1 0)) (q1 + 1) 0 (q0 + 1) 0 60) (q1 + 2) 0 (q0 + 2) 0 60) (q1 + 3) 0 (q0 + 3) 0 60) (q1 + 4) 0 (q0 + 4) 0 60) q0 5 ((cpS (cpS (cpS (cpS (su σ q0 0 (σ q1 0)) (q1 + 1) 0 (q0 + 1) 0 60) (q1 + 2) 0 (q0 + 2) 0 60) (q1 + 3) 0 (q0 + 3) 0 60) (q1 + 4) 0 (q0 + 4) 0 60) q1 5)) q1 6)) (q1 + 5) 0 (q0 + 5) 0 6) (q1 + 6) 0 (q0 + 6) 0 6) (q1 + 7) 0 (q0 + 7) 0 8) q1 10)) q0 11 ((su (cpS (cpS (cpS (su (su (cpS (cpS (cpS (cpS (su σ q0 0 (σ q1 0)) (q1 + 1) 0 (q0 + 1) 0 60) (q1 + 2) 0 (q0 + 2) 0 60) (q1 + 3) 0 (q0 + 3) 0 60) (q1 + 4) 0 (q0 + 4) 0 60) q0 5 ((cpS (cpS (cpS (cpS (su σ q0 0 (σ q1 0)) (q1 + 1) 0 (q0 + 1) 0 60) (q1 + 2) 0 (q0 + 2) 0 60) (q1 + 3) 0 (q0 + 3) 0 60) (q1 + 4) 0 (q0 + 4) 0 60) q1 5)) q0 6 ((su (cpS (cpS (cpS (cpS (su σ q0 0 (σ q1 0)) (q1 + 1) 0 (q0 + 1) 0 60) (q1 + 2) 0 (q0 + 2) 0 60) (q1 + 3) 0 (q0 + 3) 0 60) (q1 + 4) 0 (q0 + 4) 0 60) q0 5 ((cpS (cpS (cpS (cpS (su σ q0 0 (σ q1 0)) (q1 + 1) 0 (q0 + 1) 0 60) (q1 + 2) 0 (q0 + 2) 0 60) (q1 + 3) 0 (q0 + 3) 0 60) (q1 + 4) 0 (q0 + 4) 0 60) q1 5)) q1 6)) (q1 + 5) 0 (q0 + 5) 0 6) (q1 + 6) 0 (q0 + 6) 0 6) (q1 + 7) 0 (q0 + 7) 0 8) q0 10 ((cpS (cpS (cpS (su (su (cpS (cpS (cpS (cpS (su σ q0 0 (σ q1 0)) (q1 + 1) 0 (q0 + 1) 0 60) (q1 + 2) 0 (q0 + 2) 0 60) (q1 + 3) 0 (q0 + 3) 0 60) (q1 + 4) 0 (q0 + 4) 0 60) q0 5 ((cpS (cpS (cpS (cpS (su σ q0 0 (σ q1 0)) (q1 + 1) 0 (q0 + 1) 0 60) (q1 + 2) 0 (q0 + 2) 0 60) (q1 + 3) 0 (q0 + 3) 0 60) (q1 + 4) 0 (q0 + 4) 0 60) q1 5)) q0 6 ((su (cpS (cpS (cpS (cpS (su σ q0 0 (σ q1 0)) (q1 + 1) 0 (q0 + 1) 0 60) (q1 + 2) 0 (q0 + 2) 0 60) (q1 + 3) 0 (q0 + 3) 0 60) (q1 + 4) 0 (q0 + 4) 0 60) q0 5 ((cpS (cpS (cpS (cpS (su σ q0 0 (σ q1 0)) (q1 + 1) 0 (q0 + 1) 0 60) (q1 + 2) 0 (q0 + 2) 0 60) (q1 + 3) 0 (q0 + 3) 0 60) (q1 + 4) 0 (q0 + 4) 0 60) q1 5)) q1 6)) (q1 + 5) 0 (q0 + 5) 0 6) (q1 + 6) 0 (q0 + 6) 0 6) (q1 + 7) 0 (q0 + 7) 0 8) q1 10)) q1 11)) q0 12 ((su (su (cpS (cpS (cpS (su (su (cpS (cpS (cpS (cpS (su σ q0 0 (σ q1 0)) (q1 + 1) 0 (q0 + 1) 0 60) (q1 + 2) 0 (q0 + 2) 0 60) (q1 + 3) 0 (q0 + 3) 0 60) (q1 + 4) 0 (q0 + 4) 0 60) q0 5 ((cpS (cpS (cpS (cpS (su σ q0 0 (σ q1 0)) (q1 + 1) 0 (q0 + 1) 0 60) (q1 + 2) 0 (q0 + 2) 0 60) (q1 + 3) 0 (q0 + 3) 0 60) (q1 + 4) 0 (q0 + 4) 0 60) q1 5)) q0 6 ((su (cpS (cpS (cpS (cpS (su σ q0 0 (σ q1 0)) (q1 + 1) 0 (q0 + 1) 0 60) (q1 + 2) 0 (q0 + 2) 0 60) (q1 + 3) 0 (q0 + 3) 0 60) (q1 + 4) 0 (q0 + 4) 0 60) q0 5 ((cpS (cpS (cpS (cpS (su σ q0 0 (σ q1 0)) (q1 + 1) 0 (q0 + 1) 0 60) (q1 + 2) 0 (q0 + 2) 0 60) (q1 + 3) 0 (q0 + 3) 0 60) (q1 + 4) 0 (q0 + 4) 0 60) q1 5)) q1 6)) (q1 + 5) 0 (q0 + 5) 0 6) (q1 + 6) 0 (q0 + 6) 0 6) (q1 + 7) 0 (q0 + 7) 0 8) q0 10 ((cpS (cpS (cpS (su (su (cpS (cpS (cpS (cpS (su σ q0 0 (σ q1 0)) (q1 + 1) 0 (q0 + 1) 0 60) (q1 + 2) 0 (q0 + 2) 0 60) (q1 + 3) 0 (q0 + 3) 0 60) (q1 + 4) 0 (q0 + 4) 0 60) q0 5 ((cpS (cpS (cpS (cpS (su σ q0 0 (σ q1 0)) (q1 + 1) 0 (q0 + 1) 0 60) (q1 + 2) 0 (q0 + 2) 0 60) (q1 + 3) 0 (q0 + 3) 0 60) (q1 + 4) 0 (q0 + 4) 0 60) q1 5)) q0 6 ((su (cpS (cpS (cpS (cpS (su σ q0 0 (σ q1 0)) (q1 + 1) 0 (q0 + 1) 0 60) (q1 + 2) 0 (q0 + 2) 0 60) (q1 + 3) 0 (q0 + 3) 0 60) (q1 + 4) 0 (q0 + 4) 0 60) q0 5 ((cpS (cpS (cpS (cpS (su σ q0 0 (σ q1 0)) (q1 + 1) 0 (q0 + 1) 0 60) (q1 + 2) 0 (q0 + 2) 0 60) (q1 + 3) 0 (q0 + 3) 0 60) (q1 + 4) 0 (q0 + 4) 0 60) q1 5)) q1 6)) (q1 + 5) 0 (q0 + 5) 0 6) (q1 + 6) 0 (q0 + 6) 0 6) (q1 + 7) 0 (q0 + 7) 0 8) q1 10)) q0 11 ((su (cpS (cpS (cpS (su (su (cpS (cpS (cpS (cpS (su σ q0 0 (σ q1 0)) (q1 + 1) 0 (q0 + 1) 0 60) (q1 + 2) 0 (q0 + 2) 0 60) (q1 + 3) 0 (q0 + 3) 0 60) (q1 + 4) 0 (q0 + 4) 0 60) q0 5 ((cpS (cpS (cpS (cpS (su σ q0 0 (σ q1 0)) (q1 + 1) 0 (q0 + 1) 0 60) (q1 + 2) 0 (q0 + 2) 0 60) (q1 + 3) 0 (q0 + 3) 0 60) (q1 + 4) 0 (q0 + 4) 0 60) q1 5)) q0 6 ((su (cpS (cpS (cpS (cpS (su σ q0 0 (σ q1 0)) (q1 + 1) 0 (q0 + 1) 0 60) (q1 + 2) 0 (q0 + 2) 0 60) (q1 + 3) 0 (q0 + 3) 0 60) (q1 + 4) 0 (q0 + 4) 0 60) q0 5 ((cpS (cpS (cpS (cpS (su σ q0 0 (σ q1 0)) (q1 + 1) 0 (q0 + 1) 0 60) (q1 + 2) 0 (q0 + 2) 0 60) (q1 + 3) 0 (q0 + 3) 0 60) (q1 + 4) 0 (q0 + 4) 0 60) q1 5)) q1 6)) (q1 + 5) 0 (q0 + 5) 0 6) (q1 + 6) 0 (q0 + 6) 0 6) (q1 + 7) 0 (q0 + 7) 0 8) q0 10 ((cpS (cpS (cpS (su (su (cpS (cpS (cpS (cpS (su σ q0 0 (σ q1 0)) (q1 + 1) 0 (q0 + 1) 0 60) (q1 + 2) 0 (q0 + 2) 0 60) (q1 + 3) 0 (q0 + 3) 0 60) (q1 + 4) 0 (q0 + 4) 0 60) q0 5 ((cpS (cpS (cpS (cpS (su σ q0 0 (σ q1 0)) (q1 + 1) 0 (q0 + 1) 0 60) (q1 + 2) 0 (q0 + 2) 0 60) (q1 + 3) 0 (q0 + 3) 0 60) (q1 + 4) 0 (q0 + 4) 0 60) q1 5)) q0 6 ((su (cpS (cpS (cpS (cpS (su σ q0 0 (σ q1 0)) (q1 + 1) 0 (q0 + 1) 0 60) (q1 + 2) 0 (q0 + 2) 0 60) (q1 + 3) 0 (q0 + 3) 0 60) (q1 + 4) 0 (q0 + 4) 0 60) q0 5 ((cpS (cpS (cpS (cpS (su σ q0 0 (σ q1 0)) (q1 + 1) 0 (q0 + 1) 0 60) (q1 + 2) 0 (q0 + 2) 0 60) (q1 + 3) 0 (q0 + 3) 0 60) (q1 + 4) 0 (q0 + 4) 0 60) q1 5)) q1 6)) (q1 + 5) 0 (q0 + 5) 0 6) (q1 + 6) 0 (q0 + 6) 0 6) (q1 + 7) 0 (q0 + 7) 0 8) q1 10)) q1 11)) q1 12)) q1 13)) q0 14 ((su (su (su (su (cpS (cpS (cpS (su (su (cpS (cpS (cpS (cpS (su σ q0 0 (σ q1 0)) (q1 + 1) 0 (q0 + 1) 0 60) (q1 + 2) 0 (q0 + 2) 0 60) (q1 + 3) 0 (q0 + 3) 0 60) (q1 + 4) 0 (q0 + 4) 0 60) q0 5 ((cpS (cpS (cpS (cpS (su σ q0 0 (σ q1 0)) (q1 + 1) 0 (q0 + 1) 0 60) (q1 + 2) 0 (q0 + 2) 0 60) (q1 + 3) 0 (q0 + 3) 0 60) (q1 + 4) 0 (q0 + 4) 0 60) q1 5)) q0 6 ((su (cpS (cpS (cpS (cpS (su σ q0 0 (σ q1 0)) (q1 + 1) 0 (q0 + 1) 0 60) (q1 + 2) 0 (q0 + 2) 0 60) (q1 + 3) 0 (q0 + 3) 0 60) (q1 + 4) 0 (q0 + 4) 0 60) q0 5 ((cpS (cpS (cpS (cpS (su σ q0 0 (σ q1 0)) (q1 + 1) 0 (q0 + 1) 0 60) (q1 + 2) 0 (q0 + 2) 0 60) (q1 + 3) 0 (q0 + 3) 0 60) (q1 + 4) 0 (q0 + 4) 0 60) q1 5)) q1 6)) (q1 + 5) 0 (q0 + 5) 0 6) (q1 + 6) 0 (q0 + 6) 0 6) (q1 + 7) 0 (q0 + 7) 0 8) q0 10 ((cpS (cpS (cpS (su (su (cpS (cpS (cpS (cpS (su σ q0 0 (σ q1 0)) (q1 + 1) 0 (q0 + 1) 0 60) (q1 + 2) 0 (q0 + 2) 0 60) (q1 + 3) 0 (q0 + 3) 0 60) (q1 + 4) 0 (q0 + 4) 0 60) q0 5 ((cpS (cpS (cpS (cpS (su σ q0 0 (σ q1 0)) (q1 + 1) 0 (q0 + 1) 0 60) (q1 + 2) 0 (q0 + 2) 0 60) (q1 + 3) 0 (q0 + 3) 0 60) (q1 + 4) 0 (q0 + 4) 0 60) q1 5)) q0 6 ((su (cpS (cpS (cpS (cpS (su σ q0 0 (σ q1 0)) (q1 + 1) 0 (q0 + 1) 0 60) (q1 + 2) 0 (q0 + 2) 0 60) (q1 + 3) 0 (q0 + 3) 0 60) (q1 + 4) 0 (q0 + 4) 0 60) q0 5 ((cpS (cpS (cpS (cpS (su σ q0 0 (σ q1 0)) (q1 + 1) 0 (q0 + 1) 0 60) (q1 + 2) 0 (q0 + 2) 0 60) (q1 + 3) 0 (q0 + 3) 0 60) (q1 + 4) 0 (q0 + 4) 0 60) q1 5)) q1 6)) (q1 + 5) 0 (q0 + 5) 0 6) (q1 + 6) 0 (q0 + 6) 0 6) (q1 + 7) 0 (q0 + 7) 0 8) q1 10)) q0 11 ((su (cpS (cpS (cpS (su (su (cpS (cpS (cpS (cpS (su σ q0 0 (σ q1 0)) (q1 + 1) 0 (q0 + 1) 0 60) (q1 + 2) 0 (q0 + 2) 0 60) (q1 + 3) 0 (q0 + 3) 0 60) (q1 + 4) 0 (q0 + 4) 0 60) q0 5 ((cpS (cpS (cpS (cpS (su σ q0 0 (σ q1 0)) (q1 + 1) 0 (q0 + 1) 0 60) (q1 + 2) 0 (q0 + 2) 0 60) (q1 + 3) 0 (q0 + 3) 0 60) (q1 + 4) 0 (q0 + 4) 0 60) q1 5)) q0 6 ((su (cpS (cpS (cpS (cpS (su σ q0 0 (σ q1 0)) (q1 + 1) 0 (q0 + 1) 0 60) (q1 + 2) 0 (q0 + 2) 0 60) (q1 + 3) 0 (q0 + 3) 0 60) (q1 + 4) 0 (q0 + 4) 0 60) q0 5 ((cpS (cpS (cpS (cpS (su σ q0 0 (σ q1 0)) (q1 + 1) 0 (q0 + 1) 0 60) (q1 + 2) 0 (q0 + 2) 0 60) (q1 + 3) 0 (q0 + 3) 0 60) (q1 + 4) 0 (q0 + 4) 0 60) q1 5)) q1 6)) (q1 + 5) 0 (q0 + 5) 0 6) (q1 + 6) 0 (q0 + 6) 0 6) (q1 + 7) 0 (q0 + 7) 0 8) q0 10 ((cpS (cpS (cpS (su (su (cpS (cpS (cpS (cpS (su σ q0 0 (σ q1 0)) (q1 + 1) 0 (q0 + 1) 0 60) (q1 + 2) 0 (q0 + 2) 0 60) (q1 + 3) 0 (q0 + 3) 0 60) (q1 + 4) 0 (q0 + 4) 0 60) q0 5 ((cpS (cpS (cpS (cpS (su σ q0 0 (σ q1 0)) (q1 + 1) 0 (q0 + 1) 0 60) (q1 + 2) 0 (q0 + 2) 0 60) (q1 + 3) 0 (q0 + 3) 0 60) (q1 + 4) 0 (q0 + 4) 0 60) q1 5)) q0 6 ((su (cpS (cpS (cpS (cpS (su σ q0 0 (σ q1 0)) (q1 + 1) 0 (q0 + 1) 0 60) (q1 + 2) 0 (q0 + 2) 0 60) (q1 + 3) 0 (q0 + 3) 0 60) (q1 + 4) 0 (q0 + 4) 0 60) q0 5 ((cpS (cpS (cpS (cpS (su σ q0 0 (σ q1 0)) (q1 + 1) 0 (q0 + 1) 0 60) (q1 + 2) 0 (q0 + 2) 0 60) (q1 + 3) 0 (q0 + 3) 0 60) (q1 + 4) 0 (q0 + 4) 0 60) q1 5)) q1 6)) (q1 + 5) 0 (q0 + 5) 0 6) (q1 + 6) 0 (q0 + 6) 0 6) (q1 + 7) 0 (q0 + 7) 0 8) q1 10)) q1 11)) q0 12 ((su (su (cpS (cpS (cpS (su (su (cpS (cpS (cpS (cpS (su σ q0 0 (σ q1 0)) (q1 + 1) 0 (q0 + 1) 0 60) (q1 + 2) 0 (q0 + 2) 0 60) (q1 + 3) 0 (q0 + 3) 0 60) (q1 + 4) 0 (q0 + 4) 0 60) q0 5 ((cpS (cpS (cpS (cpS (su σ q0 0 (σ q1 0)) (q1 + 1) 0 (q0 + 1) 0 60) (q1 + 2) 0 (q0 + 2) 0 60) (q1 + 3) 0 (q0 + 3) 0 60) (q1 + 4) 0 (q0 + 4) 0 60) q1 5)) q0 6 ((su (cpS (cpS (cpS (cpS (su σ q0 0 (σ q1 0)) (q1 + 1) 0 (q0 + 1) 0 60) (q1 + 2) 0 (q0 + 2) 0 60) (q1 + 3) 0 (q0 + 3) 0 60) (q1 + 4) 0 (q0 + 4) 0 60) q0 5 ((cpS (cpS (cpS (cpS (su σ q0 0 (σ q1 0)) (q1 + 1) 0 (q0 + 1) 0 60) (q1 + 2) 0 (q0 + 2) 0 60) (q1 + 3) 0 (q0 + 3) 0 60) (q1 + 4) 0 (q0 + 4) 0 60) q1 5)) q1 6)) (q1 + 5) 0 (q0 + 5) 0 6) (q1 + 6) 0 (q0 + 6) 0 6) (q1 + 7) 0 (q0 + 7) 0 8) q0 10 ((cpS (cpS (cpS (su (su (cpS (cpS (cpS (cpS (su σ q0 0 (σ q1 0)) (q1 + 1) 0 (q0 + 1) 0 60) (q1 + 2) 0 (q0 + 2) 0 60) (q1 + 3) 0 (q0 + 3) 0 60) (q1 + 4) 0 (q0 + 4) 0 60) q0 5 ((cpS (cpS (cpS (cpS (su σ q0 0 (σ q1 0)) (q1 + 1) 0 (q0 + 1) 0 60) (q1 + 2) 0 (q0 + 2) 0 60) (q1 + 3) 0 (q0 + 3) 0 60) (q1 + 4) 0 (q0 + 4) 0 60) q1 5)) q0 6 ((su (cpS (cpS (cpS (cpS (su σ q0 0 (σ q1 0)) (q1 + 1) 0 (q0 + 1) 0 60) (q1 + 2) 0 (q0 + 2) 0 60) (q1 + 3) 0 (q0 + 3) 0 60) (q1 + 4) 0 (q0 + 4) 0 60) q0 5 ((cpS (cpS (cpS (cpS (su σ q0 0 (σ q1 0)) (q1 + 1) 0 (q0 + 1) 0 60) (q1 + 2) 0 (q0 + 2) 0 60) (q1 + 3) 0 (q0 + 3) 0 60) (q1 + 4) 0 (q0 + 4) 0 60) q1 5)) q1 6)) (q1 + 5) 0 (q0 + 5) 0 6) (q1 + 6) 0 (q0 + 6) 0 6) (q1 + 7) 0 (q0 + 7) 0 8) q1 10)) q0 11 ((su (cpS (cpS (cpS (su (su (cpS (cpS (cpS (cpS (su σ q0 0 (σ q1 0)) (q1 + 1) 0 (q0 + 1) 0 60) (q1 + 2) 0 (q0 + 2) 0 60) (q1 + 3) 0 (q0 + 3) 0 60) (q1 + 4) 0 (q0 + 4) 0 60) q0 5 ((cpS (cpS (cpS (cpS (su σ q0 0 (σ q1 0)) (q1 + 1) 0 (q0 + 1) 0 60) (q1 + 2) 0 (q0 + 2) 0 60) (q1 + 3) 0 (q0 + 3) 0 60) (q1 + 4) 0 (q0 + 4) 0 60) q1 5)) q0 6 ((su (cpS (cpS (cpS (cpS (su σ q0 0 (σ q1 0)) (q1 + 1) 0 (q0 + 1) 0 60) (q1 + 2) 0 (q0 + 2) 0 60) (q1 + 3) 0 (q0 + 3) 0 60) (q1 + 4) 0 (q0 + 4) 0 60) q0 5 ((cpS (cpS (cpS (cpS (su σ q0 0 (σ q1 0)) (q1 + 1) 0 (q0 + 1) 0 60) (q1 + 2) 0 (q0 + 2) 0 60) (q1 + 3) 0 (q0 + 3) 0 60) (q1 + 4) 0 (q0 + 4) 0 60) q1 5)) q1 6)) (q1 + 5) 0 (q0 + 5) 0 6) (q1 + 6) 0 (q0 + 6) 0 6) (q1 + 7) 0 (q0 + 7) 0 8) q0 10 ((cpS (cpS (cpS (su (su (cpS (cpS (cpS (cpS (su σ q0 0 (σ q1 0)) (q1 + 1) 0 (q0 + 1) 0 60) (q1 + 2) 0 (q0 + 2) 0 60) (q1 + 3) 0 (q0 + 3) 0 60) (q1 + 4) 0 (q0 + 4) 0 60) q0 5 ((cpS (cpS (cpS (cpS (su σ q0 0 (σ q1 0)) (q1 + 1) 0 (q0 + 1) 0 60) (q1 + 2) 0 (q0 + 2) 0 60) (q1 + 3) 0 (q0 + 3) 0 60) (q1 + 4) 0 (q0 + 4) 0 60) q1 5)) q0 6 ((su (cpS (cpS (cpS (cpS (su σ q0 0 (σ q1 0)) (q1 + 1) 0 (q0 + 1) 0 60) (q1 + 2) 0 (q0 + 2) 0 60) (q1 + 3) 0 (q0 + 3) 0 60) (q1 + 4) 0 (q0 + 4) 0 60) q0 5 ((cpS (cpS (cpS (cpS (su σ q0 0 (σ q1 0)) (q1 + 1) 0 (q0 + 1) 0 60) (q1 + 2) 0 (q0 + 2) 0 60) (q1 + 3) 0 (q0 + 3) 0 60) (q1 + 4) 0 (q0 + 4) 0 60) q1 5)) q1 6)) (q1 + 5) 0 (q0 + 5) 0 6) (q1 + 6) 0 (q0 + 6) 0 6) (q1 + 7) 0 (q0 + 7) 0 8) q1 10)) q1 11)) q1 12)) q0 13 ((su (su (su (cpS (cpS (cpS (su (su (cpS (cpS (cpS (cpS (su σ q0 0 (σ q1 0)) (q1 + 1) 0 (q0 + 1) 0 60) (q1 + 2) 0 (q0 + 2) 0 60) (q1 + 3) 0 (q0 + 3) 0 60) (q1 + 4) 0 (q0 + 4) 0 60) q0 5 ((cpS (cpS (cpS (cpS (su σ q0 0 (σ q1 0)) (q1 + 1) 0 (q0 + 1) 0 60) (q1 + 2) 0 (q0 + 2) 0 60) (q1 + 3) 0 (q0 + 3) 0 60) (q1 + 4) 0 (q0 + 4) 0 60) q1 5)) q0 6 ((su (cpS (cpS (cpS (cpS (su σ q0 0 (σ q1 0)) (q1 + 1) 0 (q0 + 1) 0 60) (q1 + 2) 0 (q0 + 2) 0 60) (q1 + 3) 0 (q0 + 3) 0 60) (q1 + 4) 0 (q0 + 4) 0 60) q0 5 ((cpS (cpS (cpS (cpS (su σ q0 0 (σ q1 0)) (q1 + 1) 0 (q0 + 1) 0 60) (q1 + 2) 0 (q0 + 2) 0 60) (q1 + 3) 0 (q0 + 3) 0 60) (q1 + 4) 0 (q0 + 4) 0 60) q1 5)) q1 6)) (q1 + 5) 0 (q0 + 5) 0 6) (q1 + 6) 0 (q0 + 6) 0 6) (q1 + 7) 0 (q0 + 7) 0 8) q0 10 ((cpS (cpS (cpS (su (su (cpS (cpS (cpS (cpS (su σ q0 0 (σ q1 0)) (q1 + 1) 0 (q0 + 1) 0 60) (q1 + 2) 0 (q0 + 2) 0 60) (q1 + 3) 0 (q0 + 3) 0 60) (q1 + 4) 0 (q0 + 4) 0 60) q0 5 ((cpS (cpS (cpS (cpS (su σ q0 0 (σ q1 0)) (q1 + 1) 0 (q0 + 1) 0 60) (q1 + 2) 0 (q0 + 2) 0 60) (q1 + 3) 0 (q0 + 3) 0 60) (q1 + 4) 0 (q0 + 4) 0 60) q1 5)) q0 6 ((su (cpS (cpS (cpS (cpS (su σ q0 0 (σ q1 0)) (q1 + 1) 0 (q0 + 1) 0 60) (q1 + 2) 0 (q0 + 2) 0 60) (q1 + 3) 0 (q0 + 3) 0 60) (q1 + 4) 0 (q0 + 4) 0 60) q0 5 ((cpS (cpS (cpS (cpS (su σ q0 0 (σ q1 0)) (q1 + 1) 0 (q0 + 1) 0 60) (q1 + 2) 0 (q0 + 2) 0 60) (q1 + 3) 0 (q0 + 3) 0 60) (q1 + 4) 0 (q0 + 4) 0 60) q1 5)) q1 6)) (q1 + 5) 0 (q0 + 5) 0 6) (q1 + 6) 0 (q0 + 6) 0 6) (q1 + 7) 0 (q0 + 7) 0 8) q1 10)) q0 11 ((su (cpS (cpS (cpS (su (su (cpS (cpS (cpS (cpS (su σ q0 0 (σ q1 0)) (q1 + 1) 0 (q0 + 1) 0 60) (q1 + 2) 0 (q0 + 2) 0 60) (q1 + 3) 0 (q0 + 3) 0 60) (q1 + 4) 0 (q0 + 4) 0 60) q0 5 ((cpS (cpS (cpS (cpS (su σ q0 0 (σ q1 0)) (q1 + 1) 0 (q0 + 1) 0 60) (q1 + 2) 0 (q0 + 2) 0 60) (q1 + 3) 0 (q0 + 3) 0 60) (q1 + 4) 0 (q0 + 4) 0 60) q1 5)) q0 6 ((su (cpS (cpS (cpS (cpS (su σ q0 0 (σ q1 0)) (q1 + 1) 0 (q0 + 1) 0 60) (q1 + 2) 0 (q0 + 2) 0 60) (q1 + 3) 0 (q0 + 3) 0 60) (q1 + 4) 0 (q0 + 4) 0 60) q0 5 ((cpS (cpS (cpS (cpS (su σ q0 0 (σ q1 0)) (q1 + 1) 0 (q0 + 1) 0 60) (q1 + 2) 0 (q0 + 2) 0 60) (q1 + 3) 0 (q0 + 3) 0 60) (q1 + 4) 0 (q0 + 4) 0 60) q1 5)) q1 6)) (q1 + 5) 0 (q0 + 5) 0 6) (q1 + 6) 0 (q0 + 6) 0 6) (q1 + 7) 0 (q0 + 7) 0 8) q0 10 ((cpS (cpS (cpS (su (su (cpS (cpS (cpS (cpS (su σ q0 0 (σ q1 0)) (q1 + 1) 0 (q0 + 1) 0 60) (q1 + 2) 0 (q0 + 2) 0 60) (q1 + 3) 0 (q0 + 3) 0 60) (q1 + 4) 0 (q0 + 4) 0 60) q0 5 ((cpS (cpS (cpS (cpS (su σ q0 0 (σ q1 0)) (q1 + 1) 0 (q0 + 1) 0 60) (q1 + 2) 0 (q0 + 2) 0 60) (q1 + 3) 0 (q0 + 3) 0 60) (q1 + 4) 0 (q0 + 4) 0 60) q1 5)) q0 6 ((su (cpS (cpS (cpS (cpS (su σ q0 0 (σ q1 0)) (q1 + 1) 0 (q0 + 1) 0 60) (q1 + 2) 0 (q0 + 2) 0 60) (q1 + 3) 0 (q0 + 3) 0 60) (q1 + 4) 0 (q0 + 4) 0 60) q0 5 ((cpS (cpS (cpS (cpS (su σ q0 0 (σ q1 0)) (q1 + 1) 0 (q0 + 1) 0 60) (q1 + 2) 0 (q0 + 2) 0 60) (q1 + 3) 0 (q0 + 3) 0 60) (q1 + 4) 0 (q0 + 4) 0 60) q1 5)) q1 6)) (q1 + 5) 0 (q0 + 5) 0 6) (q1 + 6) 0 (q0 + 6) 0 6) (q1 + 7) 0 (q0 + 7) 0 8) q1 10)) q1 11)) q0 12 ((su (su (cpS (cpS (cpS (su (su (cpS (cpS (cpS (cpS (su σ q0 0 (σ q1 0)) (q1 + 1) 0 (q0 + 1) 0 60) (q1 + 2) 0 (q0 + 2) 0 60) (q1 + 3) 0 (q0 + 3) 0 60) (q1 + 4) 0 (q0 + 4) 0 60) q0 5 ((cpS (cpS (cpS (cpS (su σ q0 0 (σ q1 0)) (q1 + 1) 0 (q0 + 1) 0 60) (q1 + 2) 0 (q0 + 2) 0 60) (q1 + 3) 0 (q0 + 3) 0 60) (q1 + 4) 0 (q0 + 4) 0 60) q1 5)) q0 6 ((su (cpS (cpS (cpS (cpS (su σ q0 0 (σ q1 0)) (q1 + 1) 0 (q0 + 1) 0 60) (q1 + 2) 0 (q0 + 2) 0 60) (q1 + 3) 0 (q0 + 3) 0 60) (q1 + 4) 0 (q0 + 4) 0 60) q0 5 ((cpS (cpS (cpS (cpS (su σ q0 0 (σ q1 0)) (q1 + 1) 0 (q0 + 1) 0 60) (q1 + 2) 0 (q0 + 2) 0 60) (q1 + 3) 0 (q0 + 3) 0 60) (q1 + 4) 0 (q0 + 4) 0 60) q1 5)) q1 6)) (q1 + 5) 0 (q0 + 5) 0 6) (q1 + 6) 0 (q0 + 6) 0 6) (q1 + 7) 0 (q0 + 7) 0 8) q0 10 ((cpS (cpS (cpS (su (su (cpS (cpS (cpS (cpS (su σ q0 0 (σ q1 0)) (q1 + 1) 0 (q0 + 1) 0 60) (q1 + 2) 0 (q0 + 2) 0 60) (q1 + 3) 0 (q0 + 3) 0 60) (q1 + 4) 0 (q0 + 4) 0 60) q0 5 ((cpS (cpS (cpS (cpS (su σ q0 0 (σ q1 0)) (q1 + 1) 0 (q0 + 1) 0 60) (q1 + 2) 0 (q0 + 2) 0 60) (q1 + 3) 0 (q0 + 3) 0 60) (q1 + 4) 0 (q0 + 4) 0 60) q1 5)) q0 6 ((su (cpS (cpS (cpS (cpS (su σ q0 0 (σ q1 0)) (q1 + 1) 0 (q0 + 1) 0 60) (q1 + 2) 0 (q0 + 2) 0 60) (q1 + 3) 0 (q0 + 3) 0 60) (q1 + 4) 0 (q0 + 4) 0 60) q0 5 ((cpS (cpS (cpS (cpS (su σ q0 0 (σ q1 0)) (q1 + 1) 0 (q0 + 1) 0 60) (q1 + 2) 0 (q0 + 2) 0 60) (q1 + 3) 0 (q0 + 3) 0 60) (q1 + 4) 0 (q0 + 4) 0 60) q1 5)) q1 6)) (q1 + 5) 0 (q0 + 5) 0 6) (q1 + 6) 0 (q0 + 6) 0 6) (q1 + 7) 0 (q0 + 7) 0 8) q1 10)) q0 11 ((su (cpS (cpS (cpS (su (su (cpS (cpS (cpS (cpS (su σ q0 0 (σ q1 0)) (q1 + 1) 0 (q0 + 1) 0 60) (q1 + 2) 0 (q0 + 2) 0 60) (q1 + 3) 0 (q0 + 3) 0 60) (q1 + 4) 0 (q0 + 4) 0 60) q0 5 ((cpS (cpS (cpS (cpS (su σ q0 0 (σ q1 0)) (q1 + 1) 0 (q0 + 1) 0 60) (q1 + 2) 0 (q0 + 2) 0 60) (q1 + 3) 0 (q0 + 3) 0 60) (q1 + 4) 0 (q0 + 4) 0 60) q1 5)) q0 6 ((su (cpS (cpS (cpS (cpS (su σ q0 0 (σ q1 0)) (q1 + 1) 0 (q0 + 1) 0 60) (q1 + 2) 0 (q0 + 2) 0 60) (q1 + 3) 0 (q0 + 3) 0 60) (q1 + 4) 0 (q0 + 4) 0 60) q0 5 ((cpS (cpS (cpS (cpS (su σ q0 0 (σ q1 0)) (q1 + 1) 0 (q0 + 1) 0 60) (q1 + 2) 0 (q0 + 2) 0 60) (q1 + 3) 0 (q0 + 3) 0 60) (q1 + 4) 0 (q0 + 4) 0 60) q1 5)) q1 6)) (q1 + 5) 0 (q0 + 5) 0 6) (q1 + 6) 0 (q0 + 6) 0 6) (q1 + 7) 0 (q0 + 7) 0 8) q0 10 ((cpS (cpS (cpS (su (su (cpS (cpS (cpS (cpS (su σ q0 0 (σ q1 0)) (q1 + 1) 0 (q0 + 1) 0 60) (q1 + 2) 0 (q0 + 2) 0 60) (q1 + 3) 0 (q0 + 3) 0 60) (q1 + 4) 0 (q0 + 4) 0 60) q0 5 ((cpS (cpS (cpS (cpS (su σ q0 0 (σ q1 0)) (q1 + 1) 0 (q0 + 1) 0 60) (q1 + 2) 0 (q0 + 2) 0 60) (q1 + 3) 0 (q0 + 3) 0 60) (q1 + 4) 0 (q0 + 4) 0 60) q1 5)) q0 6 ((su (cpS (cpS (cpS (cpS (su σ q0 0 (σ q1 0)) (q1 + 1) 0 (q0 + 1) 0 60) (q1 + 2) 0 (q0 + 2) 0 60) (q1 + 3) 0 (q0 + 3) 0 60) (q1 + 4) 0 (q0 + 4) 0 60) q0 5 ((cpS (cpS (cpS (cpS (su σ q0 0 (σ q1 0)) (q1 + 1) 0 (q0 + 1) 0 60) (q1 + 2) 0 (q0 + 2) 0 60) (q1 + 3) 0 (q0 + 3) 0 60) (q1 + 4) 0 (q0 + 4) 0 60) q1 5)) q1 6)) (q1 + 5) 0 (q0 + 5) 0 6) (q1 + 6) 0 (q0 + 6) 0 6) (q1 + 7) 0 (q0 + 7) 0 8) q1 10)) q1 11)) q1 12)) q1 13)) q1 14)) q0 15 ((su (su (su (su (su (cpS (cpS (cpS (su (su (cpS (cpS (cpS (cpS (su σ q0 0 (σ q1 0)) (q1 + 1) 0 (q0 + 1) 0 60) (q1 + 2) 0 (q0 + 2) 0 60) (q1 + 3) 0 (q0 + 3) 0 60) (q1 + 4) 0 (q0 + 4) 0 60) q0 5 ((cpS (cpS (cpS (cpS (su σ q0 0 (σ q1 0)) (q1 + 1) 0 (q0 + 1) 0 60) (q1 + 2) 0 (q0 + 2) 0 60) (q1 + 3) 0 (q0 + 3) 0 60) (q1 + 4) 0 (q0 + 4) 0 60) q1 5)) q0 6 ((su (cpS (cpS (cpS (cpS (su σ q0 0 (σ q1 0)) (q1 + 1) 0 (q0 + 1) 0 60) (q1 + 2) 0 (q0 + 2) 0 60) (q1 + 3) 0 (q0 + 3) 0 60) (q1 + 4) 0 (q0 + 4) 0 60) q0 5 ((cpS (cpS (cpS (cpS (su σ q0 0 (σ q1 0)) (q1 + 1) 0 (q0 + 1) 0 60) (q1 + 2) 0 (q0 + 2) 0 60) (q1 + 3) 0 (q0 + 3) 0 60) (q1 + 4) 0 (q0 + 4) 0 60) q1 5)) q1 6)) (q1 + 5) 0 (q0 + 5) 0 6) (q1 + 6) 0 (q0 + 6) 0 6) (q1 + 7) 0 (q0 + 7) 0 8) q0 10 ((cpS (cpS (cpS (su (su (cpS (cpS (cpS (cpS (su σ q0 0 (σ q1 0)) (q1 + 1) 0 (q0 + 1) 0 60) (q1 + 2) 0 (q0 + 2) 0 60) (q1 + 3) 0 (q0 + 3) 0 60) (q1 + 4) 0 (q0 + 4) 0 60) q0 5 ((cpS (cpS (cpS (cpS (su σ q0 0 (σ q1 0)) (q1 + 1) 0 (q0 + 1) 0 60) (q1 + 2) 0 (q0 + 2) 0 60) (q1 + 3) 0 (q0 + 3) 0 60) (q1 + 4) 0 (q0 + 4) 0 60) q1 5)) q0 6 ((su (cpS (cpS (cpS (cpS (su σ q0 0 (σ q1 0)) (q1 + 1) 0 (q0 + 1) 0 60) (q1 + 2) 0 (q0 + 2) 0 60) (q1 + 3) 0 (q0 + 3) 0 60) (q1 + 4) 0 (q0 + 4) 0 60) q0 5 ((cpS (cpS (cpS (cpS (su σ q0 0 (σ q1 0)) (q1 + 1) 0 (q0 + 1) 0 60) (q1 + 2) 0 (q0 + 2) 0 60) (q1 + 3) 0 (q0 + 3) 0 60) (q1 + 4) 0 (q0 + 4) 0 60) q1 5)) q1 6)) (q1 + 5) 0 (q0 + 5) 0 6) (q1 + 6) 0 (q0 + 6) 0 6) (q1 + 7) 0 (q0 + 7) 0 8) q1 10)) q0 11 ((su (cpS (cpS (cpS (su (su (cpS (cpS (cpS (cpS (su σ q0 0 (σ q1 0)) (q1 + 1) 0 (q0 + 1) 0 60) (q1 + 2) 0 (q0 + 2) 0 60) (q1 + 3) 0 (q0 + 3) 0 60) (q1 + 4) 0 (q0 + 4) 0 60) q0 5 ((cpS (cpS (cpS (cpS (su σ q0 0 (σ q1 0)) (q1 + 1) 0 (q0 + 1) 0 60) (q1 + 2) 0 (q0 + 2) 0 60) (q1 + 3) 0 (q0 + 3) 0 60) (q1 + 4) 0 (q0 + 4) 0 60) q1 5)) q0 6 ((su (cpS (cpS (cpS (cpS (su σ q0 0 (σ q1 0)) (q1 + 1) 0 (q0 + 1) 0 60) (q1 + 2) 0 (q0 + 2) 0 60) (q1 + 3) 0 (q0 + 3) 0 60) (q1 + 4) 0 (q0 + 4) 0 60) q0 5 ((cpS (cpS (cpS (cpS (su σ q0 0 (σ q1 0)) (q1 + 1) 0 (q0 + 1) 0 60) (q1 + 2) 0 (q0 + 2) 0 60) (q1 + 3) 0 (q0 + 3) 0 60) (q1 + 4) 0 (q0 + 4) 0 60) q1 5)) q1 6)) (q1 + 5) 0 (q0 + 5) 0 6) (q1 + 6) 0 (q0 + 6) 0 6) (q1 + 7) 0 (q0 + 7) 0 8) q0 10 ((cpS (cpS (cpS (su (su (cpS (cpS (cpS (cpS (su σ q0 0 (σ q1 0)) (q1 + 1) 0 (q0 + 1) 0 60) (q1 + 2) 0 (q0 + 2) 0 60) (q1 + 3) 0 (q0 + 3) 0 60) (q1 + 4) 0 (q0 + 4) 0 60) q0 5 ((cpS (cpS (cpS (cpS (su σ q0 0 (σ q1 0)) (q1 + 1) 0 (q0 + 1) 0 60) (q1 + 2) 0 (q0 + 2) 0 60) (q1 + 3) 0 (q0 + 3) 0 60) (q1 + 4) 0 (q0 + 4) 0 60) q1 5)) q0 6 ((su (cpS (cpS (cpS (cpS (su σ q0 0 (σ q1 0)) (q1 + 1) 0 (q0 + 1) 0 60) (q1 + 2) 0 (q0 + 2) 0 60) (q1 + 3) 0 (q0 + 3) 0 60) (q1 + 4) 0 (q0 + 4) 0 60) q0 5 ((cpS (cpS (cpS (cpS (su σ q0 0 (σ q1 0)) (q1 + 1) 0 (q0 + 1) 0 60) (q1 + 2) 0 (q0 + 2) 0 60) (q1 + 3) 0 (q0 + 3) 0 60) (q1 + 4) 0 (q0 + 4) 0 60) q1 5)) q1 6)) (q1 + 5) 0 (q0 + 5) 0 6) (q1 + 6) 0 (q0 + 6) 0 6) (q1 + 7) 0 (q0 + 7) 0 8) q1 10)) q1 11)) q0 12 ((su (su (cpS (cpS (cpS (su (su (cpS (cpS (cpS (cpS (su σ q0 0 (σ q1 0)) (q1 + 1) 0 (q0 + 1) 0 60) (q1 + 2) 0 (q0 + 2) 0 60) (q1 + 3) 0 (q0 + 3) 0 60) (q1 + 4) 0 (q0 + 4) 0 60) q0 5 ((cpS (cpS (cpS (cpS (su σ q0 0 (σ q1 0)) (q1 + 1) 0 (q0 + 1) 0 60) (q1 + 2) 0 (q0 + 2) 0 60) (q1 + 3) 0 (q0 + 3) 0 60) (q1 + 4) 0 (q0 + 4) 0 60) q1 5)) q0 6 ((su (cpS (cpS (cpS (cpS (su σ q0 0 (σ q1 0)) (q1 + 1) 0 (q0 + 1) 0 60) (q1 + 2) 0 (q0 + 2) 0 60) (q1 + 3) 0 (q0 + 3) 0 60) (q1 + 4) 0 (q0 + 4) 0 60) q0 5 ((cpS (cpS (cpS (cpS (su σ q0 0 (σ q1 0)) (q1 + 1) 0 (q0 + 1) 0 60) (q1 + 2) 0 (q0 + 2) 0 60) (q1 + 3) 0 (q0 + 3) 0 60) (q1 + 4) 0 (q0 + 4) 0 60) q1 5)) q1 6)) (q1 + 5) 0 (q0 + 5) 0 6) (q1 + 6) 0 (q0 + 6) 0 6) (q1 + 7) 0 (q0 + 7) 0 8) q0 10 ((cpS (cpS (cpS (su (su (cpS (cpS (cpS (cpS (su σ q0 0 (σ q1 0)) (q1 + 1) 0 (q0 + 1) 0 60) (q1 + 2) 0 (q0 + 2) 0 60) (q1 + 3) 0 (q0 + 3) 0 60) (q1 + 4) 0 (q0 + 4) 0 60) q0 5 ((cpS (cpS (cpS (cpS (su σ q0 0 (σ q1 0)) (q1 + 1) 0 (q0 + 1) 0 60) (q1 + 2) 0 (q0 + 2) 0 60) (q1 + 3) 0 (q0 + 3) 0 60) (q1 + 4) 0 (q0 + 4) 0 60) q1 5)) q0 6 ((su (cpS (cpS (cpS (cpS (su σ q0 0 (σ q1 0)) (q1 + 1) 0 (q0 + 1) 0 60) (q1 + 2) 0 (q0 + 2) 0 60) (q1 + 3) 0 (q0 + 3) 0 60) (q1 + 4) 0 (q0 + 4) 0 60) q0 5 ((cpS (cpS (cpS (cpS (su σ q0 0 (σ q1 0)) (q1 + 1) 0 (q0 + 1) 0 60) (q1 + 2) 0 (q0 + 2) 0 60) (q1 + 3) 0 (q0 + 3) 0 60) (q1 + 4) 0 (q0 + 4) 0 60) q1 5)) q1 6)) (q1 + 5) 0 (q0 + 5) 0 6) (q1 + 6) 0 (q0 + 6) 0 6) (q1 + 7) 0 (q0 + 7) 0 8) q1 10)) q0 11 ((su (cpS (cpS (cpS (su (su (cpS (cpS (cpS (cpS (su σ q0 0 (σ q1 0)) (q1 + 1) 0 (q0 + 1) 0 60) (q1 + 2) 0 (q0 + 2) 0 60) (q1 + 3) 0 (q0 + 3) 0 60) (q1 + 4) 0 (q0 + 4) 0 60) q0 5 ((cpS (cpS (cpS (cpS (su σ q0 0 (σ q1 0)) (q1 + 1) 0 (q0 + 1) 0 60) (q1 + 2) 0 (q0 + 2) 0 60) (q1 + 3) 0 (q0 + 3) 0 60) (q1 + 4) 0 (q0 + 4) 0 60) q1 5)) q0 6 ((su (cpS (cpS (cpS (cpS (su σ q0 0 (σ q1 0)) (q1 + 1) 0 (q0 + 1) 0 60) (q1 + 2) 0 (q0 + 2) 0 60) (q1 + 3) 0 (q0 + 3) 0 60) (q1 + 4) 0 (q0 + 4) 0 60) q0 5 ((cpS (cpS (cpS (cpS (su σ q0 0 (σ q1 0)) (q1 + 1) 0 (q0 + 1) 0 60) (q1 + 2) 0 (q0 + 2) 0 60) (q1 + 3) 0 (q0 + 3) 0 60) (q1 + 4) 0 (q0 + 4) 0 60) q1 5)) q1 6)) (q1 + 5) 0 (q0 + 5) 0 6) (q1 + 6) 0 (q0 + 6) 0 6) (q1 + 7) 0 (q0 + 7) 0 8) q0 10 ((cpS (cpS (cpS (su (su (cpS (cpS (cpS (cpS (su σ q0 0 (σ q1 0)) (q1 + 1) 0 (q0 + 1) 0 60) (q1 + 2) 0 (q0 + 2) 0 60) (q1 + 3) 0 (q0 + 3) 0 60) (q1 + 4) 0 (q0 + 4) 0 60) q0 5 ((cpS (cpS (cpS (cpS (su σ q0 0 (σ q1 0)) (q1 + 1) 0 (q0 + 1) 0 60) (q1 + 2) 0 (q0 + 2) 0 60) (q1 + 3) 0 (q0 + 3) 0 60) (q1 + 4) 0 (q0 + 4) 0 60) q1 5)) q0 6 ((su (cpS (cpS (cpS (cpS (su σ q0 0 (σ q1 0)) (q1 + 1) 0 (q0 + 1) 0 60) (q1 + 2) 0 (q0 + 2) 0 60) (q1 + 3) 0 (q0 + 3) 0 60) (q1 + 4) 0 (q0 + 4) 0 60) q0 5 ((cpS (cpS (cpS (cpS (su σ q0 0 (σ q1 0)) (q1 + 1) 0 (q0 + 1) 0 60) (q1 + 2) 0 (q0 + 2) 0 60) (q1 + 3) 0 (q0 + 3) 0 60) (q1 + 4) 0 (q0 + 4) 0 60) q1 5)) q1 6)) (q1 + 5) 0 (q0 + 5) 0 6) (q1 + 6) 0 (q0 + 6) 0 6) (q1 + 7) 0 (q0 + 7) 0 8) q1 10)) q1 11)) q1 12)) q0 13 ((su (su (su (cpS (cpS (cpS (su (su (cpS (cpS (cpS (cpS (su σ q0 0 (σ q1 0)) (q1 + 1) 0 (q0 + 1) 0 60) (q1 + 2) 0 (q0 + 2) 0 60) (q1 + 3) 0 (q0 + 3) 0 60) (q1 + 4) 0 (q0 + 4) 0 60) q0 5 ((cpS (cpS (cpS (cpS (su σ q0 0 (σ q1 0)) (q1 + 1) 0 (q0 + 1) 0 60) (q1 + 2) 0 (q0 + 2) 0 60) (q1 + 3) 0 (q0 + 3) 0 60) (q1 + 4) 0 (q0 + 4) 0 60) q1 5)) q0 6 ((su (cpS (cpS (cpS (cpS (su σ q0 0 (σ q1 0)) (q1 + 1) 0 (q0 + 1) 0 60) (q1 + 2) 0 (q0 + 2) 0 60) (q1 + 3) 0 (q0 + 3) 0 60) (q1 + 4) 0 (q0 + 4) 0 60) q0 5 ((cpS (cpS (cpS (cpS (su σ q0 0 (σ q1 0)) (q1 + 1) 0 (q0 + 1) 0 60) (q1 + 2) 0 (q0 + 2) 0 60) (q1 + 3) 0 (q0 + 3) 0 60) (q1 + 4) 0 (q0 + 4) 0 60) q1 5)) q1 6)) (q1 + 5) 0 (q0 + 5) 0 6) (q1 + 6) 0 (q0 + 6) 0 6) (q1 + 7) 0 (q0 + 7) 0 8) q0 10 ((cpS (cpS (cpS (su (su (cpS (cpS (cpS (cpS (su σ q0 0 (σ q1 0)) (q1 + 1) 0 (q0 + 1) 0 60) (q1 + 2) 0 (q0 + 2) 0 60) (q1 + 3) 0 (q0 + 3) 0 60) (q1 + 4) 0 (q0 + 4) 0 60) q0 5 ((cpS (cpS (cpS (cpS (su σ q0 0 (σ q1 0)) (q1 + 1) 0 (q0 + 1) 0 60) (q1 + 2) 0 (q0 + 2) 0 60) (q1 + 3) 0 (q0 + 3) 0 60) (q1 + 4) 0 (q0 + 4) 0 60) q1 5)) q0 6 ((su (cpS (cpS (cpS (cpS (su σ q0 0 (σ q1 0)) (q1 + 1) 0 (q0 + 1) 0 60) (q1 + 2) 0 (q0 + 2) 0 60) (q1 + 3) 0 (q0 + 3) 0 60) (q1 + 4) 0 (q0 + 4) 0 60) q0 5 ((cpS (cpS (cpS (cpS (su σ q0 0 (σ q1 0)) (q1 + 1) 0 (q0 + 1) 0 60) (q1 + 2) 0 (q0 + 2) 0 60) (q1 + 3) 0 (q0 + 3) 0 60) (q1 + 4) 0 (q0 + 4) 0 60) q1 5)) q1 6)) (q1 + 5) 0 (q0 + 5) 0 6) (q1 + 6) 0 (q0 + 6) 0 6) (q1 + 7) 0 (q0 + 7) 0 8) q1 10)) q0 11 ((su (cpS (cpS (cpS (su (su (cpS (cpS (cpS (cpS (su σ q0 0 (σ q1 0)) (q1 + 1) 0 (q0 + 1) 0 60) (q1 + 2) 0 (q0 + 2) 0 60) (q1 + 3) 0 (q0 + 3) 0 60) (q1 + 4) 0 (q0 + 4) 0 60) q0 5 ((cpS (cpS (cpS (cpS (su σ q0 0 (σ q1 0)) (q1 + 1) 0 (q0 + 1) 0 60) (q1 + 2) 0 (q0 + 2) 0 60) (q1 + 3) 0 (q0 + 3) 0 60) (q1 + 4) 0 (q0 + 4) 0 60) q1 5)) q0 6 ((su (cpS (cpS (cpS (cpS (su σ q0 0 (σ q1 0)) (q1 + 1) 0 (q0 + 1) 0 60) (q1 + 2) 0 (q0 + 2) 0 60) (q1 + 3) 0 (q0 + 3) 0 60) (q1 + 4) 0 (q0 + 4) 0 60) q0 5 ((cpS (cpS (cpS (cpS (su σ q0 0 (σ q1 0)) (q1 + 1) 0 (q0 + 1) 0 60) (q1 + 2) 0 (q0 + 2) 0 60) (q1 + 3) 0 (q0 + 3) 0 60) (q1 + 4) 0 (q0 + 4) 0 60) q1 5)) q1 6)) (q1 + 5) 0 (q0 + 5) 0 6) (q1 + 6) 0 (q0 + 6) 0 6) (q1 + 7) 0 (q0 + 7) 0 8) q0 10 ((cpS (cpS (cpS (su (su (cpS (cpS (cpS (cpS (su σ q0 0 (σ q1 0)) (q1 + 1) 0 (q0 + 1) 0 60) (q1 + 2) 0 (q0 + 2) 0 60) (q1 + 3) 0 (q0 + 3) 0 60) (q1 + 4) 0 (q0 + 4) 0 60) q0 5 ((cpS (cpS (cpS (cpS (su σ q0 0 (σ q1 0)) (q1 + 1) 0 (q0 + 1) 0 60) (q1 + 2) 0 (q0 + 2) 0 60) (q1 + 3) 0 (q0 + 3) 0 60) (q1 + 4) 0 (q0 + 4) 0 60) q1 5)) q0 6 ((su (cpS (cpS (cpS (cpS (su σ q0 0 (σ q1 0)) (q1 + 1) 0 (q0 + 1) 0 60) (q1 + 2) 0 (q0 + 2) 0 60) (q1 + 3) 0 (q0 + 3) 0 60) (q1 + 4) 0 (q0 + 4) 0 60) q0 5 ((cpS (cpS (cpS (cpS (su σ q0 0 (σ q1 0)) (q1 + 1) 0 (q0 + 1) 0 60) (q1 + 2) 0 (q0 + 2) 0 60) (q1 + 3) 0 (q0 + 3) 0 60) (q1 + 4) 0 (q0 + 4) 0 60) q1 5)) q1 6)) (q1 + 5) 0 (q0 + 5) 0 6) (q1 + 6) 0 (q0 + 6) 0 6) (q1 + 7) 0 (q0 + 7) 0 8) q1 10)) q1 11)) q0 12 ((su (su (cpS (cpS (cpS (su (su (cpS (cpS (cpS (cpS (su σ q0 0 (σ q1 0)) (q1 + 1) 0 (q0 + 1) 0 60) (q1 + 2) 0 (q0 + 2) 0 60) (q1 + 3) 0 (q0 + 3) 0 60) (q1 + 4) 0 (q0 + 4) 0 60) q0 5 ((cpS (cpS (cpS (cpS (su σ q0 0 (σ q1 0)) (q1 + 1) 0 (q0 + 1) 0 60) (q1 + 2) 0 (q0 + 2) 0 60) (q1 + 3) 0 (q0 + 3) 0 60) (q1 + 4) 0 (q0 + 4) 0 60) q1 5)) q0 6 ((su (cpS (cpS (cpS (cpS (su σ q0 0 (σ q1 0)) (q1 + 1) 0 (q0 + 1) 0 60) (q1 + 2) 0 (q0 + 2) 0 60) (q1 + 3) 0 (q0 + 3) 0 60) (q1 + 4) 0 (q0 + 4) 0 60) q0 5 ((cpS (cpS (cpS (cpS (su σ q0 0 (σ q1 0)) (q1 + 1) 0 (q0 + 1) 0 60) (q1 + 2) 0 (q0 + 2) 0 60) (q1 + 3) 0 (q0 + 3) 0 60) (q1 + 4) 0 (q0 + 4) 0 60) q1 5)) q1 6)) (q1 + 5) 0 (q0 + 5) 0 6) (q1 + 6) 0 (q0 + 6) 0 6) (q1 + 7) 0 (q0 + 7) 0 8) q0 10 ((cpS (cpS (cpS (su (su (cpS (cpS (cpS (cpS (su σ q0 0 (σ q1 0)) (q1 + 1) 0 (q0 + 1) 0 60) (q1 + 2) 0 (q0 + 2) 0 60) (q1 + 3) 0 (q0 + 3) 0 60) (q1 + 4) 0 (q0 + 4) 0 60) q0 5 ((cpS (cpS (cpS (cpS (su σ q0 0 (σ q1 0)) (q1 + 1) 0 (q0 + 1) 0 60) (q1 + 2) 0 (q0 + 2) 0 60) (q1 + 3) 0 (q0 + 3) 0 60) (q1 + 4) 0 (q0 + 4) 0 60) q1 5)) q0 6 ((su (cpS (cpS (cpS (cpS (su σ q0 0 (σ q1 0)) (q1 + 1) 0 (q0 + 1) 0 60) (q1 + 2) 0 (q0 + 2) 0 60) (q1 + 3) 0 (q0 + 3) 0 60) (q1 + 4) 0 (q0 + 4) 0 60) q0 5 ((cpS (cpS (cpS (cpS (su σ q0 0 (σ q1 0)) (q1 + 1) 0 (q0 + 1) 0 60) (q1 + 2) 0 (q0 + 2) 0 60) (q1 + 3) 0 (q0 + 3) 0 60) (q1 + 4) 0 (q0 + 4) 0 60) q1 5)) q1 6)) (q1 + 5) 0 (q0 + 5) 0 6) (q1 + 6) 0 (q0 + 6) 0 6) (q1 + 7) 0 (q0 + 7) 0 8) q1 10)) q0 11 ((su (cpS (cpS (cpS (su (su (cpS (cpS (cpS (cpS (su σ q0 0 (σ q1 0)) (q1 + 1) 0 (q0 + 1) 0 60) (q1 + 2) 0 (q0 + 2) 0 60) (q1 + 3) 0 (q0 + 3) 0 60) (q1 + 4) 0 (q0 + 4) 0 60) q0 5 ((cpS (cpS (cpS (cpS (su σ q0 0 (σ q1 0)) (q1 + 1) 0 (q0 + 1) 0 60) (q1 + 2) 0 (q0 + 2) 0 60) (q1 + 3) 0 (q0 + 3) 0 60) (q1 + 4) 0 (q0 + 4) 0 60) q1 5)) q0 6 ((su (cpS (cpS (cpS (cpS (su σ q0 0 (σ q1 0)) (q1 + 1) 0 (q0 + 1) 0 60) (q1 + 2) 0 (q0 + 2) 0 60) (q1 + 3) 0 (q0 + 3) 0 60) (q1 + 4) 0 (q0 + 4) 0 60) q0 5 ((cpS (cpS (cpS (cpS (su σ q0 0 (σ q1 0)) (q1 + 1) 0 (q0 + 1) 0 60) (q1 + 2) 0 (q0 + 2) 0 60) (q1 + 3) 0 (q0 + 3) 0 60) (q1 + 4) 0 (q0 + 4) 0 60) q1 5)) q1 6)) (q1 + 5) 0 (q0 + 5) 0 6) (q1 + 6) 0 (q0 + 6) 0 6) (q1 + 7) 0 (q0 + 7) 0 8) q0 10 ((cpS (cpS (cpS (su (su (cpS (cpS (cpS (cpS (su σ q0 0 (σ q1 0)) (q1 + 1) 0 (q0 + 1) 0 60) (q1 + 2) 0 (q0 + 2) 0 60) (q1 + 3) 0 (q0 + 3) 0 60) (q1 + 4) 0 (q0 + 4) 0 60) q0 5 ((cpS (cpS (cpS (cpS (su σ q0 0 (σ q1 0)) (q1 + 1) 0 (q0 + 1) 0 60) (q1 + 2) 0 (q0 + 2) 0 60) (q1 + 3) 0 (q0 + 3) 0 60) (q1 + 4) 0 (q0 + 4) 0 60) q1 5)) q0 6 ((su (cpS (cpS (cpS (cpS (su σ q0 0 (σ q1 0)) (q1 + 1) 0 (q0 + 1) 0 60) (q1 + 2) 0 (q0 + 2) 0 60) (q1 + 3) 0 (q0 + 3) 0 60) (q1 + 4) 0 (q0 + 4) 0 60) q0 5 ((cpS (cpS (cpS (cpS (su σ q0 0 (σ q1 0)) (q1 + 1) 0 (q0 + 1) 0 60) (q1 + 2) 0 (q0 + 2) 0 60) (q1 + 3) 0 (q0 + 3) 0 60) (q1 + 4) 0 (q0 + 4) 0 60) q1 5)) q1 6)) (q1 + 5) 0 (q0 + 5) 0 6) (q1 + 6) 0 (q0 + 6) 0 6) (q1 + 7) 0 (q0 + 7) 0 8) q1 10)) q1 11)) q1 12)) q1 13)) q0 14 ((su (su (su (su (cpS (cpS (cpS (su (su (cpS (cpS (cpS (cpS (su σ q0 0 (σ q1 0)) (q1 + 1) 0 (q0 + 1) 0 60) (q1 + 2) 0 (q0 + 2) 0 60) (q1 + 3) 0 (q0 + 3) 0 60) (q1 + 4) 0 (q0 + 4) 0 60) q0 5 ((cpS (cpS (cpS (cpS (su σ q0 0 (σ q1 0)) (q1 + 1) 0 (q0 + 1) 0 60) (q1 + 2) 0 (q0 + 2) 0 60) (q1 + 3) 0 (q0 + 3) 0 60) (q1 + 4) 0 (q0 + 4) 0 60) q1 5)) q0 6 ((su (cpS (cpS (cpS (cpS (su σ q0 0 (σ q1 0)) (q1 + 1) 0 (q0 + 1) 0 60) (q1 + 2) 0 (q0 + 2) 0 60) (q1 + 3) 0 (q0 + 3) 0 60) (q1 + 4) 0 (q0 + 4) 0 60) q0 5 ((cpS (cpS (cpS (cpS (su σ q0 0 (σ q1 0)) (q1 + 1) 0 (q0 + 1) 0 60) (q1 + 2) 0 (q0 + 2) 0 60) (q1 + 3) 0 (q0 + 3) 0 60) (q1 + 4) 0 (q0 + 4) 0 60) q1 5)) q1 6)) (q1 + 5) 0 (q0 + 5) 0 6) (q1 + 6) 0 (q0 + 6) 0 6) (q1 + 7) 0 (q0 + 7) 0 8) q0 10 ((cpS (cpS (cpS (su (su (cpS (cpS (cpS (cpS (su σ q0 0 (σ q1 0)) (q1 + 1) 0 (q0 + 1) 0 60) (q1 + 2) 0 (q0 + 2) 0 60) (q1 + 3) 0 (q0 + 3) 0 60) (q1 + 4) 0 (q0 + 4) 0 60) q0 5 ((cpS (cpS (cpS (cpS (su σ q0 0 (σ q1 0)) (q1 + 1) 0 (q0 + 1) 0 60) (q1 + 2) 0 (q0 + 2) 0 60) (q1 + 3) 0 (q0 + 3) 0 60) (q1 + 4) 0 (q0 + 4) 0 60) q1 5)) q0 6 ((su (cpS (cpS (cpS (cpS (su σ q0 0 (σ q1 0)) (q1 + 1) 0 (q0 + 1) 0 60) (q1 + 2) 0 (q0 + 2) 0 60) (q1 + 3) 0 (q0 + 3) 0 60) (q1 + 4) 0 (q0 + 4) 0 60) q0 5 ((cpS (cpS (cpS (cpS (su σ q0 0 (σ q1 0)) (q1 + 1) 0 (q0 + 1) 0 60) (q1 + 2) 0 (q0 + 2) 0 60) (q1 + 3) 0 (q0 + 3) 0 60) (q1 + 4) 0 (q0 + 4) 0 60) q1 5)) q1 6)) (q1 + 5) 0 (q0 + 5) 0 6) (q1 + 6) 0 (q0 + 6) 0 6) (q1 + 7) 0 (q0 + 7) 0 8) q1 10)) q0 11 ((su (cpS (cpS (cpS (su (su (cpS (cpS (cpS (cpS (su σ q0 0 (σ q1 0)) (q1 + 1) 0 (q0 + 1) 0 60) (q1 + 2) 0 (q0 + 2) 0 60) (q1 + 3) 0 (q0 + 3) 0 60) (q1 + 4) 0 (q0 + 4) 0 60) q0 5 ((cpS (cpS (cpS (cpS (su σ q0 0 (σ q1 0)) (q1 + 1) 0 (q0 + 1) 0 60) (q1 + 2) 0 (q0 + 2) 0 60) (q1 + 3) 0 (q0 + 3) 0 60) (q1 + 4) 0 (q0 + 4) 0 60) q1 5)) q0 6 ((su (cpS (cpS (cpS (cpS (su σ q0 0 (σ q1 0)) (q1 + 1) 0 (q0 + 1) 0 60) (q1 + 2) 0 (q0 + 2) 0 60) (q1 + 3) 0 (q0 + 3) 0 60) (q1 + 4) 0 (q0 + 4) 0 60) q0 5 ((cpS (cpS (cpS (cpS (su σ q0 0 (σ q1 0)) (q1 + 1) 0 (q0 + 1) 0 60) (q1 + 2) 0 (q0 + 2) 0 60) (q1 + 3) 0 (q0 + 3) 0 60) (q1 + 4) 0 (q0 + 4) 0 60) q1 5)) q1 6)) (q1 + 5) 0 (q0 + 5) 0 6) (q1 + 6) 0 (q0 + 6) 0 6) (q1 + 7) 0 (q0 + 7) 0 8) q0 10 ((cpS (cpS (cpS (su (su (cpS (cpS (cpS (cpS (su σ q0 0 (σ q1 0)) (q1 + 1) 0 (q0 + 1) 0 60) (q1 + 2) 0 (q0 + 2) 0 60) (q1 + 3) 0 (q0 + 3) 0 60) (q1 + 4) 0 (q0 + 4) 0 60) q0 5 ((cpS (cpS (cpS (cpS (su σ q0 0 (σ q1 0)) (q1 + 1) 0 (q0 + 1) 0 60) (q1 + 2) 0 (q0 + 2) 0 60) (q1 + 3) 0 (q0 + 3) 0 60) (q1 + 4) 0 (q0 + 4) 0 60) q1 5)) q0 6 ((su (cpS (cpS (cpS (cpS (su σ q0 0 (σ q1 0)) (q1 + 1) 0 (q0 + 1) 0 60) (q1 + 2) 0 (q0 + 2) 0 60) (q1 + 3) 0 (q0 + 3) 0 60) (q1 + 4) 0 (q0 + 4) 0 60) q0 5 ((cpS (cpS (cpS (cpS (su σ q0 0 (σ q1 0)) (q1 + 1) 0 (q0 + 1) 0 60) (q1 + 2) 0 (q0 + 2) 0 60) (q1 + 3) 0 (q0 + 3) 0 60) (q1 + 4) 0 (q0 + 4) 0 60) q1 5)) q1 6)) (q1 + 5) 0 (q0 + 5) 0 6) (q1 + 6) 0 (q0 + 6) 0 6) (q1 + 7) 0 (q0 + 7) 0 8) q1 10)) q1 11)) q0 12 ((su (su (cpS (cpS (cpS (su (su (cpS (cpS (cpS (cpS (su σ q0 0 (σ q1 0)) (q1 + 1) 0 (q0 + 1) 0 60) (q1 + 2) 0 (q0 + 2) 0 60) (q1 + 3) 0 (q0 + 3) 0 60) (q1 + 4) 0 (q0 + 4) 0 60) q0 5 ((cpS (cpS (cpS (cpS (su σ q0 0 (σ q1 0)) (q1 + 1) 0 (q0 + 1) 0 60) (q1 + 2) 0 (q0 + 2) 0 60) (q1 + 3) 0 (q0 + 3) 0 60) (q1 + 4) 0 (q0 + 4) 0 60) q1 5)) q0 6 ((su (cpS (cpS (cpS (cpS (su σ q0 0 (σ q1 0)) (q1 + 1) 0 (q0 + 1) 0 60) (q1 + 2) 0 (q0 + 2) 0 60) (q1 + 3) 0 (q0 + 3) 0 60) (q1 + 4) 0 (q0 + 4) 0 60) q0 5 ((cpS (cpS (cpS (cpS (su σ q0 0 (σ q1 0)) (q1 + 1) 0 (q0 + 1) 0 60) (q1 + 2) 0 (q0 + 2) 0 60) (q1 + 3) 0 (q0 + 3) 0 60) (q1 + 4) 0 (q0 + 4) 0 60) q1 5)) q1 6)) (q1 + 5) 0 (q0 + 5) 0 6) (q1 + 6) 0 (q0 + 6) 0 6) (q1 + 7) 0 (q0 + 7) 0 8) q0 10 ((cpS (cpS (cpS (su (su (cpS (cpS (cpS (cpS (su σ q0 0 (σ q1 0)) (q1 + 1) 0 (q0 + 1) 0 60) (q1 + 2) 0 (q0 + 2) 0 60) (q1 + 3) 0 (q0 + 3) 0 60) (q1 + 4) 0 (q0 + 4) 0 60) q0 5 ((cpS (cpS (cpS (cpS (su σ q0 0 (σ q1 0)) (q1 + 1) 0 (q0 + 1) 0 60) (q1 + 2) 0 (q0 + 2) 0 60) (q1 + 3) 0 (q0 + 3) 0 60) (q1 + 4) 0 (q0 + 4) 0 60) q1 5)) q0 6 ((su (cpS (cpS (cpS (cpS (su σ q0 0 (σ q1 0)) (q1 + 1) 0 (q0 + 1) 0 60) (q1 + 2) 0 (q0 + 2) 0 60) (q1 + 3) 0 (q0 + 3) 0 60) (q1 + 4) 0 (q0 + 4) 0 60) q0 5 ((cpS (cpS (cpS (cpS (su σ q0 0 (σ q1 0)) (q1 + 1) 0 (q0 + 1) 0 60) (q1 + 2) 0 (q0 + 2) 0 60) (q1 + 3) 0 (q0 + 3) 0 60) (q1 + 4) 0 (q0 + 4) 0 60) q1 5)) q1 6)) (q1 + 5) 0 (q0 + 5) 0 6) (q1 + 6) 0 (q0 + 6) 0 6) (q1 + 7) 0 (q0 + 7) 0 8) q1 10)) q0 11 ((su (cpS (cpS (cpS (su (su (cpS (cpS (cpS (cpS (su σ q0 0 (σ q1 0)) (q1 + 1) 0 (q0 + 1) 0 60) (q1 + 2) 0 (q0 + 2) 0 60) (q1 + 3) 0 (q0 + 3) 0 60) (q1 + 4) 0 (q0 + 4) 0 60) q0 5 ((cpS (cpS (cpS (cpS (su σ q0 0 (σ q1 0)) (q1 + 1) 0 (q0 + 1) 0 60) (q1 + 2) 0 (q0 + 2) 0 60) (q1 + 3) 0 (q0 + 3) 0 60) (q1 + 4) 0 (q0 + 4) 0 60) q1 5)) q0 6 ((su (cpS (cpS (cpS (cpS (su σ q0 0 (σ q1 0)) (q1 + 1) 0 (q0 + 1) 0 60) (q1 + 2) 0 (q0 + 2) 0 60) (q1 + 3) 0 (q0 + 3) 0 60) (q1 + 4) 0 (q0 + 4) 0 60) q0 5 ((cpS (cpS (cpS (cpS (su σ q0 0 (σ q1 0)) (q1 + 1) 0 (q0 + 1) 0 60) (q1 + 2) 0 (q0 + 2) 0 60) (q1 + 3) 0 (q0 + 3) 0 60) (q1 + 4) 0 (q0 + 4) 0 60) q1 5)) q1 6)) (q1 + 5) 0 (q0 + 5) 0 6) (q1 + 6) 0 (q0 + 6) 0 6) (q1 + 7) 0 (q0 + 7) 0 8) q0 10 ((cpS (cpS (cpS (su (su (cpS (cpS (cpS (cpS (su σ q0 0 (σ q1 0)) (q1 + 1) 0 (q0 + 1) 0 60) (q1 + 2) 0 (q0 + 2) 0 60) (q1 + 3) 0 (q0 + 3) 0 60) (q1 + 4) 0 (q0 + 4) 0 60) q0 5 ((cpS (cpS (cpS (cpS (su σ q0 0 (σ q1 0)) (q1 + 1) 0 (q0 + 1) 0 60) (q1 + 2) 0 (q0 + 2) 0 60) (q1 + 3) 0 (q0 + 3) 0 60) (q1 + 4) 0 (q0 + 4) 0 60) q1 5)) q0 6 ((su (cpS (cpS (cpS (cpS (su σ q0 0 (σ q1 0)) (q1 + 1) 0 (q0 + 1) 0 60) (q1 + 2) 0 (q0 + 2) 0 60) (q1 + 3) 0 (q0 + 3) 0 60) (q1 + 4) 0 (q0 + 4) 0 60) q0 5 ((cpS (cpS (cpS (cpS (su σ q0 0 (σ q1 0)) (q1 + 1) 0 (q0 + 1) 0 60) (q1 + 2) 0 (q0 + 2) 0 60) (q1 + 3) 0 (q0 + 3) 0 60) (q1 + 4) 0 (q0 + 4) 0 60) q1 5)) q1 6)) (q1 + 5) 0 (q0 + 5) 0 6) (q1 + 6) 0 (q0 + 6) 0 6) (q1 + 7) 0 (q0 + 7) 0 8) q1 10)) q1 11)) q1 12)) q0 13 ((su (su (su (cpS (cpS (cpS (su (su (cpS (cpS (cpS (cpS (su σ q0 0 (σ q1 0)) (q1 + 1) 0 (q0 + 1) 0 60) (q1 + 2) 0 (q0 + 2) 0 60) (q1 + 3) 0 (q0 + 3) 0 60) (q1 + 4) 0 (q0 + 4) 0 60) q0 5 ((cpS (cpS (cpS (cpS (su σ q0 0 (σ q1 0)) (q1 + 1) 0 (q0 + 1) 0 60) (q1 + 2) 0 (q0 + 2) 0 60) (q1 + 3) 0 (q0 + 3) 0 60) (q1 + 4) 0 (q0 + 4) 0 60) q1 5)) q0 6 ((su (cpS (cpS (cpS (cpS (su σ q0 0 (σ q1 0)) (q1 + 1) 0 (q0 + 1) 0 60) (q1 + 2) 0 (q0 + 2) 0 60) (q1 + 3) 0 (q0 + 3) 0 60) (q1 + 4) 0 (q0 + 4) 0 60) q0 5 ((cpS (cpS (cpS (cpS (su σ q0 0 (σ q1 0)) (q1 + 1) 0 (q0 + 1) 0 60) (q1 + 2) 0 (q0 + 2) 0 60) (q1 + 3) 0 (q0 + 3) 0 60) (q1 + 4) 0 (q0 + 4) 0 60) q1 5)) q1 6)) (q1 + 5) 0 (q0 + 5) 0 6) (q1 + 6) 0 (q0 + 6) 0 6) (q1 + 7) 0 (q0 + 7) 0 8) q0 10 ((cpS (cpS (cpS (su (su (cpS (cpS (cpS (cpS (su σ q0 0 (σ q1 0)) (q1 + 1) 0 (q0 + 1) 0 60) (q1 + 2) 0 (q0 + 2) 0 60) (q1 + 3) 0 (q0 + 3) 0 60) (q1 + 4) 0 (q0 + 4) 0 60) q0 5 ((cpS (cpS (cpS (cpS (su σ q0 0 (σ q1 0)) (q1 + 1) 0 (q0 + 1) 0 60) (q1 + 2) 0 (q0 + 2) 0 60) (q1 + 3) 0 (q0 + 3) 0 60) (q1 + 4) 0 (q0 + 4) 0 60) q1 5)) q0 6 ((su (cpS (cpS (cpS (cpS (su σ q0 0 (σ q1 0)) (q1 + 1) 0 (q0 + 1) 0 60) (q1 + 2) 0 (q0 + 2) 0 60) (q1 + 3) 0 (q0 + 3) 0 60) (q1 + 4) 0 (q0 + 4) 0 60) q0 5 ((cpS (cpS (cpS (cpS (su σ q0 0 (σ q1 0)) (q1 + 1) 0 (q0 + 1) 0 60) (q1 + 2) 0 (q0 + 2) 0 60) (q1 + 3) 0 (q0 + 3) 0 60) (q1 + 4) 0 (q0 + 4) 0 60) q1 5)) q1 6)) (q1 + 5) 0 (q0 + 5) 0 6) (q1 + 6) 0 (q0 + 6) 0 6) (q1 + 7) 0 (q0 + 7) 0 8) q1 10)) q0 11 ((su (cpS (cpS (cpS (su (su (cpS (cpS (cpS (cpS (su σ q0 0 (σ q1 0)) (q1 + 1) 0 (q0 + 1) 0 60) (q1 + 2) 0 (q0 + 2) 0 60) (q1 + 3) 0 (q0 + 3) 0 60) (q1 + 4) 0 (q0 + 4) 0 60) q0 5 ((cpS (cpS (cpS (cpS (su σ q0 0 (σ q1 0)) (q1 + 1) 0 (q0 + 1) 0 60) (q1 + 2) 0 (q0 + 2) 0 60) (q1 + 3) 0 (q0 + 3) 0 60) (q1 + 4) 0 (q0 + 4) 0 60) q1 5)) q0 6 ((su (cpS (cpS (cpS (cpS (su σ q0 0 (σ q1 0)) (q1 + 1) 0 (q0 + 1) 0 60) (q1 + 2) 0 (q0 + 2) 0 60) (q1 + 3) 0 (q0 + 3) 0 60) (q1 + 4) 0 (q0 + 4) 0 60) q0 5 ((cpS (cpS (cpS (cpS (su σ q0 0 (σ q1 0)) (q1 + 1) 0 (q0 + 1) 0 60) (q1 + 2) 0 (q0 + 2) 0 60) (q1 + 3) 0 (q0 + 3) 0 60) (q1 + 4) 0 (q0 + 4) 0 60) q1 5)) q1 6)) (q1 + 5) 0 (q0 + 5) 0 6) (q1 + 6) 0 (q0 + 6) 0 6) (q1 + 7) 0 (q0 + 7) 0 8) q0 10 ((cpS (cpS (cpS (su (su (cpS (cpS (cpS (cpS (su σ q0 0 (σ q1 0)) (q1 + 1) 0 (q0 + 1) 0 60) (q1 + 2) 0 (q0 + 2) 0 60) (q1 + 3) 0 (q0 + 3) 0 60) (q1 + 4) 0 (q0 + 4) 0 60) q0 5 ((cpS (cpS (cpS (cpS (su σ q0 0 (σ q1 0)) (q1 + 1) 0 (q0 + 1) 0 60) (q1 + 2) 0 (q0 + 2) 0 60) (q1 + 3) 0 (q0 + 3) 0 60) (q1 + 4) 0 (q0 + 4) 0 60) q1 5)) q0 6 ((su (cpS (cpS (cpS (cpS (su σ q0 0 (σ q1 0)) (q1 + 1) 0 (q0 + 1) 0 60) (q1 + 2) 0 (q0 + 2) 0 60) (q1 + 3) 0 (q0 + 3) 0 60) (q1 + 4) 0 (q0 + 4) 0 60) q0 5 ((cpS (cpS (cpS (cpS (su σ q0 0 (σ q1 0)) (q1 + 1) 0 (q0 + 1) 0 60) (q1 + 2) 0 (q0 + 2) 0 60) (q1 + 3) 0 (q0 + 3) 0 60) (q1 + 4) 0 (q0 + 4) 0 60) q1 5)) q1 6)) (q1 + 5) 0 (q0 + 5) 0 6) (q1 + 6) 0 (q0 + 6) 0 6) (q1 + 7) 0 (q0 + 7) 0 8) q1 10)) q1 11)) q0 12 ((su (su (cpS (cpS (cpS (su (su (cpS (cpS (cpS (cpS (su σ q0 0 (σ q1 0)) (q1 + 1) 0 (q0 + 1) 0 60) (q1 + 2) 0 (q0 + 2) 0 60) (q1 + 3) 0 (q0 + 3) 0 60) (q1 + 4) 0 (q0 + 4) 0 60) q0 5 ((cpS (cpS (cpS (cpS (su σ q0 0 (σ q1 0)) (q1 + 1) 0 (q0 + 1) 0 60) (q1 + 2) 0 (q0 + 2) 0 60) (q1 + 3) 0 (q0 + 3) 0 60) (q1 + 4) 0 (q0 + 4) 0 60) q1 5)) q0 6 ((su (cpS (cpS (cpS (cpS (su σ q0 0 (σ q1 0)) (q1 + 1) 0 (q0 + 1) 0 60) (q1 + 2) 0 (q0 + 2) 0 60) (q1 + 3) 0 (q0 + 3) 0 60) (q1 + 4) 0 (q0 + 4) 0 60) q0 5 ((cpS (cpS (cpS (cpS (su σ q0 0 (σ q1 0)) (q1 + 1) 0 (q0 + 1) 0 60) (q1 + 2) 0 (q0 + 2) 0 60) (q1 + 3) 0 (q0 + 3) 0 60) (q1 + 4) 0 (q0 + 4) 0 60) q1 5)) q1 6)) (q1 + 5) 0 (q0 + 5) 0 6) (q1 + 6) 0 (q0 + 6) 0 6) (q1 + 7) 0 (q0 + 7) 0 8) q0 10 ((cpS (cpS (cpS (su (su (cpS (cpS (cpS (cpS (su σ q0 0 (σ q1 0)) (q1 + 1) 0 (q0 + 1) 0 60) (q1 + 2) 0 (q0 + 2) 0 60) (q1 + 3) 0 (q0 + 3) 0 60) (q1 + 4) 0 (q0 + 4) 0 60) q0 5 ((cpS (cpS (cpS (cpS (su σ q0 0 (σ q1 0)) (q1 + 1) 0 (q0 + 1) 0 60) (q1 + 2) 0 (q0 + 2) 0 60) (q1 + 3) 0 (q0 + 3) 0 60) (q1 + 4) 0 (q0 + 4) 0 60) q1 5)) q0 6 ((su (cpS (cpS (cpS (cpS (su σ q0 0 (σ q1 0)) (q1 + 1) 0 (q0 + 1) 0 60) (q1 + 2) 0 (q0 + 2) 0 60) (q1 + 3) 0 (q0 + 3) 0 60) (q1 + 4) 0 (q0 + 4) 0 60) q0 5 ((cpS (cpS (cpS (cpS (su σ q0 0 (σ q1 0)) (q1 + 1) 0 (q0 + 1) 0 60) (q1 + 2) 0 (q0 + 2) 0 60) (q1 + 3) 0 (q0 + 3) 0 60) (q1 + 4) 0 (q0 + 4) 0 60) q1 5)) q1 6)) (q1 + 5) 0 (q0 + 5) 0 6) (q1 + 6) 0 (q0 + 6) 0 6) (q1 + 7) 0 (q0 + 7) 0 8) q1 10)) q0 11 ((su (cpS (cpS (cpS (su (su (cpS (cpS (cpS (cpS (su σ q0 0 (σ q1 0)) (q1 + 1) 0 (q0 + 1) 0 60) (q1 + 2) 0 (q0 + 2) 0 60) (q1 + 3) 0 (q0 + 3) 0 60) (q1 + 4) 0 (q0 + 4) 0 60) q0 5 ((cpS (cpS (cpS (cpS (su σ q0 0 (σ q1 0)) (q1 + 1) 0 (q0 + 1) 0 60) (q1 + 2) 0 (q0 + 2) 0 60) (q1 + 3) 0 (q0 + 3) 0 60) (q1 + 4) 0 (q0 + 4) 0 60) q1 5)) q0 6 ((su (cpS (cpS (cpS (cpS (su σ q0 0 (σ q1 0)) (q1 + 1) 0 (q0 + 1) 0 60) (q1 + 2) 0 (q0 + 2) 0 60) (q1 + 3) 0 (q0 + 3) 0 60) (q1 + 4) 0 (q0 + 4) 0 60) q0 5 ((cpS (cpS (cpS (cpS (su σ q0 0 (σ q1 0)) (q1 + 1) 0 (q0 + 1) 0 60) (q1 + 2) 0 (q0 + 2) 0 60) (q1 + 3) 0 (q0 + 3) 0 60) (q1 + 4) 0 (q0 + 4) 0 60) q1 5)) q1 6)) (q1 + 5) 0 (q0 + 5) 0 6) (q1 + 6) 0 (q0 + 6) 0 6) (q1 + 7) 0 (q0 + 7) 0 8) q0 10 ((cpS (cpS (cpS (su (su (cpS (cpS (cpS (cpS (su σ q0 0 (σ q1 0)) (q1 + 1) 0 (q0 + 1) 0 60) (q1 + 2) 0 (q0 + 2) 0 60) (q1 + 3) 0 (q0 + 3) 0 60) (q1 + 4) 0 (q0 + 4) 0 60) q0 5 ((cpS (cpS (cpS (cpS (su σ q0 0 (σ q1 0)) (q1 + 1) 0 (q0 + 1) 0 60) (q1 + 2) 0 (q0 + 2) 0 60) (q1 + 3) 0 (q0 + 3) 0 60) (q1 + 4) 0 (q0 + 4) 0 60) q1 5)) q0 6 ((su (cpS (cpS (cpS (cpS (su σ q0 0 (σ q1 0)) (q1 + 1) 0 (q0 + 1) 0 60) (q1 + 2) 0 (q0 + 2) 0 60) (q1 + 3) 0 (q0 + 3) 0 60) (q1 + 4) 0 (q0 + 4) 0 60) q0 5 ((cpS (cpS (cpS (cpS (su σ q0 0 (σ q1 0)) (q1 + 1) 0 (q0 + 1) 0 60) (q1 + 2) 0 (q0 + 2) 0 60) (q1 + 3) 0 (q0 + 3) 0 60) (q1 + 4) 0 (q0 + 4) 0 60) q1 5)) q1 6)) (q1 + 5) 0 (q0 + 5) 0 6) (q1 + 6) 0 (q0 + 6) 0 6) (q1 + 7) 0 (q0 + 7) 0 8) q1 10)) q1 11)) q1 12)) q1 13)) q1 14)) q1 15)) q0 16 ((su (su (su (su (su (su (cpS (cpS (cpS (su (su (cpS (cpS (cpS (cpS (su σ q0 0 (σ q1 0)) (q1 + 1) 0 (q0 + 1) 0 60) (q1 + 2) 0 (q0 + 2) 0 60) (q1 + 3) 0 (q0 + 3) 0 60) (q1 + 4) 0 (q0 + 4) 0 60) q0 5 ((cpS (cpS (cpS (cpS (su σ q0 0 (σ q1 0)) (q1 + 1) 0 (q0 + 1) 0 60) (q1 + 2) 0 (q0 + 2) 0 60) (q1 + 3) 0 (q0 + 3) 0 60) (q1 + 4) 0 (q0 + 4) 0 60) q1 5)) q0 6 ((su (cpS (cpS (cpS (cpS (su σ q0 0 (σ q1 0)) (q1 + 1) 0 (q0 + 1) 0 60) (q1 + 2) 0 (q0 + 2) 0 60) (q1 + 3) 0 (q0 + 3) 0 60) (q1 + 4) 0 (q0 + 4) 0 60) q0 5 ((cpS (cpS (cpS (cpS (su σ q0 0 (σ q1 0)) (q1 + 1) 0 (q0 + 1) 0 60) (q1 + 2) 0 (q0 + 2) 0 60) (q1 + 3) 0 (q0 + 3) 0 60) (q1 + 4) 0 (q0 + 4) 0 60) q1 5)) q1 6)) (q1 + 5) 0 (q0 + 5) 0 6) (q1 + 6) 0 (q0 + 6) 0 6) (q1 + 7) 0 (q0 + 7) 0 8) q0 10 ((cpS (cpS (cpS (su (su (cpS (cpS (cpS (cpS (su σ q0 0 (σ q1 0)) (q1 + 1) 0 (q0 + 1) 0 60) (q1 + 2) 0 (q0 + 2) 0 60) (q1 + 3) 0 (q0 + 3) 0 60) (q1 + 4) 0 (q0 + 4) 0 60) q0 5 ((cpS (cpS (cpS (cpS (su σ q0 0 (σ q1 0)) (q1 + 1) 0 (q0 + 1) 0 60) (q1 + 2) 0 (q0 + 2) 0 60) (q1 + 3) 0 (q0 + 3) 0 60) (q1 + 4) 0 (q0 + 4) 0 60) q1 5)) q0 6 ((su (cpS (cpS (cpS (cpS (su σ q0 0 (σ q1 0)) (q1 + 1) 0 (q0 + 1) 0 60) (q1 + 2) 0 (q0 + 2) 0 60) (q1 + 3) 0 (q0 + 3) 0 60) (q1 + 4) 0 (q0 + 4) 0 60) q0 5 ((cpS (cpS (cpS (cpS (su σ q0 0 (σ q1 0)) (q1 + 1) 0 (q0 + 1) 0 60) (q1 + 2) 0 (q0 + 2) 0 60) (q1 + 3) 0 (q0 + 3) 0 60) (q1 + 4) 0 (q0 + 4) 0 60) q1 5)) q1 6)) (q1 + 5) 0 (q0 + 5) 0 6) (q1 + 6) 0 (q0 + 6) 0 6) (q1 + 7) 0 (q0 + 7) 0 8) q1 10)) q0 11 ((su (cpS (cpS (cpS (su (su (cpS (cpS (cpS (cpS (su σ q0 0 (σ q1 0)) (q1 + 1) 0 (q0 + 1) 0 60) (q1 + 2) 0 (q0 + 2) 0 60) (q1 + 3) 0 (q0 + 3) 0 60) (q1 + 4) 0 (q0 + 4) 0 60) q0 5 ((cpS (cpS (cpS (cpS (su σ q0 0 (σ q1 0)) (q1 + 1) 0 (q0 + 1) 0 60) (q1 + 2) 0 (q0 + 2) 0 60) (q1 + 3) 0 (q0 + 3) 0 60) (q1 + 4) 0 (q0 + 4) 0 60) q1 5)) q0 6 ((su (cpS (cpS (cpS (cpS (su σ q0 0 (σ q1 0)) (q1 + 1) 0 (q0 + 1) 0 60) (q1 + 2) 0 (q0 + 2) 0 60) (q1 + 3) 0 (q0 + 3) 0 60) (q1 + 4) 0 (q0 + 4) 0 60) q0 5 ((cpS (cpS (cpS (cpS (su σ q0 0 (σ q1 0)) (q1 + 1) 0 (q0 + 1) 0 60) (q1 + 2) 0 (q0 + 2) 0 60) (q1 + 3) 0 (q0 + 3) 0 60) (q1 + 4) 0 (q0 + 4) 0 60) q1 5)) q1 6)) (q1 + 5) 0 (q0 + 5) 0 6) (q1 + 6) 0 (q0 + 6) 0 6) (q1 + 7) 0 (q0 + 7) 0 8) q0 10 ((cpS (cpS (cpS (su (su (cpS (cpS (cpS (cpS (su σ q0 0 (σ q1 0)) (q1 + 1) 0 (q0 + 1) 0 60) (q1 + 2) 0 (q0 + 2) 0 60) (q1 + 3) 0 (q0 + 3) 0 60) (q1 + 4) 0 (q0 + 4) 0 60) q0 5 ((cpS (cpS (cpS (cpS (su σ q0 0 (σ q1 0)) (q1 + 1) 0 (q0 + 1) 0 60) (q1 + 2) 0 (q0 + 2) 0 60) (q1 + 3) 0 (q0 + 3) 0 60) (q1 + 4) 0 (q0 + 4) 0 60) q1 5)) q0 6 ((su (cpS (cpS (cpS (cpS (su σ q0 0 (σ q1 0)) (q1 + 1) 0 (q0 + 1) 0 60) (q1 + 2) 0 (q0 + 2) 0 60) (q1 + 3) 0 (q0 + 3) 0 60) (q1 + 4) 0 (q0 + 4) 0 60) q0 5 ((cpS (cpS (cpS (cpS (su σ q0 0 (σ q1 0)) (q1 + 1) 0 (q0 + 1) 0 60) (q1 + 2) 0 (q0 + 2) 0 60) (q1 + 3) 0 (q0 + 3) 0 60) (q1 + 4) 0 (q0 + 4) 0 60) q1 5)) q1 6)) (q1 + 5) 0 (q0 + 5) 0 6) (q1 + 6) 0 (q0 + 6) 0 6) (q1 + 7) 0 (q0 + 7) 0 8) q1 10)) q1 11)) q0 12 ((su (su (cpS (cpS (cpS (su (su (cpS (cpS (cpS (cpS (su σ q0 0 (σ q1 0)) (q1 + 1) 0 (q0 + 1) 0 60) (q1 + 2) 0 (q0 + 2) 0 60) (q1 + 3) 0 (q0 + 3) 0 60) (q1 + 4) 0 (q0 + 4) 0 60) q0 5 ((cpS (cpS (cpS (cpS (su σ q0 0 (σ q1 0)) (q1 + 1) 0 (q0 + 1) 0 60) (q1 + 2) 0 (q0 + 2) 0 60) (q1 + 3) 0 (q0 + 3) 0 60) (q1 + 4) 0 (q0 + 4) 0 60) q1 5)) q0 6 ((su (cpS (cpS (cpS (cpS (su σ q0 0 (σ q1 0)) (q1 + 1) 0 (q0 + 1) 0 60) (q1 + 2) 0 (q0 + 2) 0 60) (q1 + 3) 0 (q0 + 3) 0 60) (q1 + 4) 0 (q0 + 4) 0 60) q0 5 ((cpS (cpS (cpS (cpS (su σ q0 0 (σ q1 0)) (q1 + 1) 0 (q0 + 1) 0 60) (q1 + 2) 0 (q0 + 2) 0 60) (q1 + 3) 0 (q0 + 3) 0 60) (q1 + 4) 0 (q0 + 4) 0 60) q1 5)) q1 6)) (q1 + 5) 0 (q0 + 5) 0 6) (q1 + 6) 0 (q0 + 6) 0 6) (q1 + 7) 0 (q0 + 7) 0 8) q0 10 ((cpS (cpS (cpS (su (su (cpS (cpS (cpS (cpS (su σ q0 0 (σ q1 0)) (q1 + 1) 0 (q0 + 1) 0 60) (q1 + 2) 0 (q0 + 2) 0 60) (q1 + 3) 0 (q0 + 3) 0 60) (q1 + 4) 0 (q0 + 4) 0 60) q0 5 ((cpS (cpS (cpS (cpS (su σ q0 0 (σ q1 0)) (q1 + 1) 0 (q0 + 1) 0 60) (q1 + 2) 0 (q0 + 2) 0 60) (q1 + 3) 0 (q0 + 3) 0 60) (q1 + 4) 0 (q0 + 4) 0 60) q1 5)) q0 6 ((su (cpS (cpS (cpS (cpS (su σ q0 0 (σ q1 0)) (q1 + 1) 0 (q0 + 1) 0 60) (q1 + 2) 0 (q0 + 2) 0 60) (q1 + 3) 0 (q0 + 3) 0 60) (q1 + 4) 0 (q0 + 4) 0 60) q0 5 ((cpS (cpS (cpS (cpS (su σ q0 0 (σ q1 0)) (q1 + 1) 0 (q0 + 1) 0 60) (q1 + 2) 0 (q0 + 2) 0 60) (q1 + 3) 0 (q0 + 3) 0 60) (q1 + 4) 0 (q0 + 4) 0 60) q1 5)) q1 6)) (q1 + 5) 0 (q0 + 5) 0 6) (q1 + 6) 0 (q0 + 6) 0 6) (q1 + 7) 0 (q0 + 7) 0 8) q1 10)) q0 11 ((su (cpS (cpS (cpS (su (su (cpS (cpS (cpS (cpS (su σ q0 0 (σ q1 0)) (q1 + 1) 0 (q0 + 1) 0 60) (q1 + 2) 0 (q0 + 2) 0 60) (q1 + 3) 0 (q0 + 3) 0 60) (q1 + 4) 0 (q0 + 4) 0 60) q0 5 ((cpS (cpS (cpS (cpS (su σ q0 0 (σ q1 0)) (q1 + 1) 0 (q0 + 1) 0 60) (q1 + 2) 0 (q0 + 2) 0 60) (q1 + 3) 0 (q0 + 3) 0 60) (q1 + 4) 0 (q0 + 4) 0 60) q1 5)) q0 6 ((su (cpS (cpS (cpS (cpS (su σ q0 0 (σ q1 0)) (q1 + 1) 0 (q0 + 1) 0 60) (q1 + 2) 0 (q0 + 2) 0 60) (q1 + 3) 0 (q0 + 3) 0 60) (q1 + 4) 0 (q0 + 4) 0 60) q0 5 ((cpS (cpS (cpS (cpS (su σ q0 0 (σ q1 0)) (q1 + 1) 0 (q0 + 1) 0 60) (q1 + 2) 0 (q0 + 2) 0 60) (q1 + 3) 0 (q0 + 3) 0 60) (q1 + 4) 0 (q0 + 4) 0 60) q1 5)) q1 6)) (q1 + 5) 0 (q0 + 5) 0 6) (q1 + 6) 0 (q0 + 6) 0 6) (q1 + 7) 0 (q0 + 7) 0 8) q0 10 ((cpS (cpS (cpS (su (su (cpS (cpS (cpS (cpS (su σ q0 0 (σ q1 0)) (q1 + 1) 0 (q0 + 1) 0 60) (q1 + 2) 0 (q0 + 2) 0 60) (q1 + 3) 0 (q0 + 3) 0 60) (q1 + 4) 0 (q0 + 4) 0 60) q0 5 ((cpS (cpS (cpS (cpS (su σ q0 0 (σ q1 0)) (q1 + 1) 0 (q0 + 1) 0 60) (q1 + 2) 0 (q0 + 2) 0 60) (q1 + 3) 0 (q0 + 3) 0 60) (q1 + 4) 0 (q0 + 4) 0 60) q1 5)) q0 6 ((su (cpS (cpS (cpS (cpS (su σ q0 0 (σ q1 0)) (q1 + 1) 0 (q0 + 1) 0 60) (q1 + 2) 0 (q0 + 2) 0 60) (q1 + 3) 0 (q0 + 3) 0 60) (q1 + 4) 0 (q0 + 4) 0 60) q0 5 ((cpS (cpS (cpS (cpS (su σ q0 0 (σ q1 0)) (q1 + 1) 0 (q0 + 1) 0 60) (q1 + 2) 0 (q0 + 2) 0 60) (q1 + 3) 0 (q0 + 3) 0 60) (q1 + 4) 0 (q0 + 4) 0 60) q1 5)) q1 6)) (q1 + 5) 0 (q0 + 5) 0 6) (q1 + 6) 0 (q0 + 6) 0 6) (q1 + 7) 0 (q0 + 7) 0 8) q1 10)) q1 11)) q1 12)) q0 13 ((su (su (su (cpS (cpS (cpS (su (su (cpS (cpS (cpS (cpS (su σ q0 0 (σ q1 0)) (q1 + 1) 0 (q0 + 1) 0 60) (q1 + 2) 0 (q0 + 2) 0 60) (q1 + 3) 0 (q0 + 3) 0 60) (q1 + 4) 0 (q0 + 4) 0 60) q0 5 ((cpS (cpS (cpS (cpS (su σ q0 0 (σ q1 0)) (q1 + 1) 0 (q0 + 1) 0 60) (q1 + 2) 0 (q0 + 2) 0 60) (q1 + 3) 0 (q0 + 3) 0 60) (q1 + 4) 0 (q0 + 4) 0 60) q1 5)) q0 6 ((su (cpS (cpS (cpS (cpS (su σ q0 0 (σ q1 0)) (q1 + 1) 0 (q0 + 1) 0 60) (q1 + 2) 0 (q0 + 2) 0 60) (q1 + 3) 0 (q0 + 3) 0 60) (q1 + 4) 0 (q0 + 4) 0 60) q0 5 ((cpS (cpS (cpS (cpS (su σ q0 0 (σ q1 0)) (q1 + 1) 0 (q0 + 1) 0 60) (q1 + 2) 0 (q0 + 2) 0 60) (q1 + 3) 0 (q0 + 3) 0 60) (q1 + 4) 0 (q0 + 4) 0 60) q1 5)) q1 6)) (q1 + 5) 0 (q0 + 5) 0 6) (q1 + 6) 0 (q0 + 6) 0 6) (q1 + 7) 0 (q0 + 7) 0 8) q0 10 ((cpS (cpS (cpS (su (su (cpS (cpS (cpS (cpS (su σ q0 0 (σ q1 0)) (q1 + 1) 0 (q0 + 1) 0 60) (q1 + 2) 0 (q0 + 2) 0 60) (q1 + 3) 0 (q0 + 3) 0 60) (q1 + 4) 0 (q0 + 4) 0 60) q0 5 ((cpS (cpS (cpS (cpS (su σ q0 0 (σ q1 0)) (q1 + 1) 0 (q0 + 1) 0 60) (q1 + 2) 0 (q0 + 2) 0 60) (q1 + 3) 0 (q0 + 3) 0 60) (q1 + 4) 0 (q0 + 4) 0 60) q1 5)) q0 6 ((su (cpS (cpS (cpS (cpS (su σ q0 0 (σ q1 0)) (q1 + 1) 0 (q0 + 1) 0 60) (q1 + 2) 0 (q0 + 2) 0 60) (q1 + 3) 0 (q0 + 3) 0 60) (q1 + 4) 0 (q0 + 4) 0 60) q0 5 ((cpS (cpS (cpS (cpS (su σ q0 0 (σ q1 0)) (q1 + 1) 0 (q0 + 1) 0 60) (q1 + 2) 0 (q0 + 2) 0 60) (q1 + 3) 0 (q0 + 3) 0 60) (q1 + 4) 0 (q0 + 4) 0 60) q1 5)) q1 6)) (q1 + 5) 0 (q0 + 5) 0 6) (q1 + 6) 0 (q0 + 6) 0 6) (q1 + 7) 0 (q0 + 7) 0 8) q1 10)) q0 11 ((su (cpS (cpS (cpS (su (su (cpS (cpS (cpS (cpS (su σ q0 0 (σ q1 0)) (q1 + 1) 0 (q0 + 1) 0 60) (q1 + 2) 0 (q0 + 2) 0 60) (q1 + 3) 0 (q0 + 3) 0 60) (q1 + 4) 0 (q0 + 4) 0 60) q0 5 ((cpS (cpS (cpS (cpS (su σ q0 0 (σ q1 0)) (q1 + 1) 0 (q0 + 1) 0 60) (q1 + 2) 0 (q0 + 2) 0 60) (q1 + 3) 0 (q0 + 3) 0 60) (q1 + 4) 0 (q0 + 4) 0 60) q1 5)) q0 6 ((su (cpS (cpS (cpS (cpS (su σ q0 0 (σ q1 0)) (q1 + 1) 0 (q0 + 1) 0 60) (q1 + 2) 0 (q0 + 2) 0 60) (q1 + 3) 0 (q0 + 3) 0 60) (q1 + 4) 0 (q0 + 4) 0 60) q0 5 ((cpS (cpS (cpS (cpS (su σ q0 0 (σ q1 0)) (q1 + 1) 0 (q0 + 1) 0 60) (q1 + 2) 0 (q0 + 2) 0 60) (q1 + 3) 0 (q0 + 3) 0 60) (q1 + 4) 0 (q0 + 4) 0 60) q1 5)) q1 6)) (q1 + 5) 0 (q0 + 5) 0 6) (q1 + 6) 0 (q0 + 6) 0 6) (q1 + 7) 0 (q0 + 7) 0 8) q0 10 ((cpS (cpS (cpS (su (su (cpS (cpS (cpS (cpS (su σ q0 0 (σ q1 0)) (q1 + 1) 0 (q0 + 1) 0 60) (q1 + 2) 0 (q0 + 2) 0 60) (q1 + 3) 0 (q0 + 3) 0 60) (q1 + 4) 0 (q0 + 4) 0 60) q0 5 ((cpS (cpS (cpS (cpS (su σ q0 0 (σ q1 0)) (q1 + 1) 0 (q0 + 1) 0 60) (q1 + 2) 0 (q0 + 2) 0 60) (q1 + 3) 0 (q0 + 3) 0 60) (q1 + 4) 0 (q0 + 4) 0 60) q1 5)) q0 6 ((su (cpS (cpS (cpS (cpS (su σ q0 0 (σ q1 0)) (q1 + 1) 0 (q0 + 1) 0 60) (q1 + 2) 0 (q0 + 2) 0 60) (q1 + 3) 0 (q0 + 3) 0 60) (q1 + 4) 0 (q0 + 4) 0 60) q0 5 ((cpS (cpS (cpS (cpS (su σ q0 0 (σ q1 0)) (q1 + 1) 0 (q0 + 1) 0 60) (q1 + 2) 0 (q0 + 2) 0 60) (q1 + 3) 0 (q0 + 3) 0 60) (q1 + 4) 0 (q0 + 4) 0 60) q1 5)) q1 6)) (q1 + 5) 0 (q0 + 5) 0 6) (q1 + 6) 0 (q0 + 6) 0 6) (q1 + 7) 0 (q0 + 7) 0 8) q1 10)) q1 11)) q0 12 ((su (su (cpS (cpS (cpS (su (su (cpS (cpS (cpS (cpS (su σ q0 0 (σ q1 0)) (q1 + 1) 0 (q0 + 1) 0 60) (q1 + 2) 0 (q0 + 2) 0 60) (q1 + 3) 0 (q0 + 3) 0 60) (q1 + 4) 0 (q0 + 4) 0 60) q0 5 ((cpS (cpS (cpS (cpS (su σ q0 0 (σ q1 0)) (q1 + 1) 0 (q0 + 1) 0 60) (q1 + 2) 0 (q0 + 2) 0 60) (q1 + 3) 0 (q0 + 3) 0 60) (q1 + 4) 0 (q0 + 4) 0 60) q1 5)) q0 6 ((su (cpS (cpS (cpS (cpS (su σ q0 0 (σ q1 0)) (q1 + 1) 0 (q0 + 1) 0 60) (q1 + 2) 0 (q0 + 2) 0 60) (q1 + 3) 0 (q0 + 3) 0 60) (q1 + 4) 0 (q0 + 4) 0 60) q0 5 ((cpS (cpS (cpS (cpS (su σ q0 0 (σ q1 0)) (q1 + 1) 0 (q0 + 1) 0 60) (q1 + 2) 0 (q0 + 2) 0 60) (q1 + 3) 0 (q0 + 3) 0 60) (q1 + 4) 0 (q0 + 4) 0 60) q1 5)) q1 6)) (q1 + 5) 0 (q0 + 5) 0 6) (q1 + 6) 0 (q0 + 6) 0 6) (q1 + 7) 0 (q0 + 7) 0 8) q0 10 ((cpS (cpS (cpS (su (su (cpS (cpS (cpS (cpS (su σ q0 0 (σ q1 0)) (q1 + 1) 0 (q0 + 1) 0 60) (q1 + 2) 0 (q0 + 2) 0 60) (q1 + 3) 0 (q0 + 3) 0 60) (q1 + 4) 0 (q0 + 4) 0 60) q0 5 ((cpS (cpS (cpS (cpS (su σ q0 0 (σ q1 0)) (q1 + 1) 0 (q0 + 1) 0 60) (q1 + 2) 0 (q0 + 2) 0 60) (q1 + 3) 0 (q0 + 3) 0 60) (q1 + 4) 0 (q0 + 4) 0 60) q1 5)) q0 6 ((su (cpS (cpS (cpS (cpS (su σ q0 0 (σ q1 0)) (q1 + 1) 0 (q0 + 1) 0 60) (q1 + 2) 0 (q0 + 2) 0 60) (q1 + 3) 0 (q0 + 3) 0 60) (q1 + 4) 0 (q0 + 4) 0 60) q0 5 ((cpS (cpS (cpS (cpS (su σ q0 0 (σ q1 0)) (q1 + 1) 0 (q0 + 1) 0 60) (q1 + 2) 0 (q0 + 2) 0 60) (q1 + 3) 0 (q0 + 3) 0 60) (q1 + 4) 0 (q0 + 4) 0 60) q1 5)) q1 6)) (q1 + 5) 0 (q0 + 5) 0 6) (q1 + 6) 0 (q0 + 6) 0 6) (q1 + 7) 0 (q0 + 7) 0 8) q1 10)) q0 11 ((su (cpS (cpS (cpS (su (su (cpS (cpS (cpS (cpS (su σ q0 0 (σ q1 0)) (q1 + 1) 0 (q0 + 1) 0 60) (q1 + 2) 0 (q0 + 2) 0 60) (q1 + 3) 0 (q0 + 3) 0 60) (q1 + 4) 0 (q0 + 4) 0 60) q0 5 ((cpS (cpS (cpS (cpS (su σ q0 0 (σ q1 0)) (q1 + 1) 0 (q0 + 1) 0 60) (q1 + 2) 0 (q0 + 2) 0 60) (q1 + 3) 0 (q0 + 3) 0 60) (q1 + 4) 0 (q0 + 4) 0 60) q1 5)) q0 6 ((su (cpS (cpS (cpS (cpS (su σ q0 0 (σ q1 0)) (q1 + 1) 0 (q0 + 1) 0 60) (q1 + 2) 0 (q0 + 2) 0 60) (q1 + 3) 0 (q0 + 3) 0 60) (q1 + 4) 0 (q0 + 4) 0 60) q0 5 ((cpS (cpS (cpS (cpS (su σ q0 0 (σ q1 0)) (q1 + 1) 0 (q0 + 1) 0 60) (q1 + 2) 0 (q0 + 2) 0 60) (q1 + 3) 0 (q0 + 3) 0 60) (q1 + 4) 0 (q0 + 4) 0 60) q1 5)) q1 6)) (q1 + 5) 0 (q0 + 5) 0 6) (q1 + 6) 0 (q0 + 6) 0 6) (q1 + 7) 0 (q0 + 7) 0 8) q0 10 ((cpS (cpS (cpS (su (su (cpS (cpS (cpS (cpS (su σ q0 0 (σ q1 0)) (q1 + 1) 0 (q0 + 1) 0 60) (q1 + 2) 0 (q0 + 2) 0 60) (q1 + 3) 0 (q0 + 3) 0 60) (q1 + 4) 0 (q0 + 4) 0 60) q0 5 ((cpS (cpS (cpS (cpS (su σ q0 0 (σ q1 0)) (q1 + 1) 0 (q0 + 1) 0 60) (q1 + 2) 0 (q0 + 2) 0 60) (q1 + 3) 0 (q0 + 3) 0 60) (q1 + 4) 0 (q0 + 4) 0 60) q1 5)) q0 6 ((su (cpS (cpS (cpS (cpS (su σ q0 0 (σ q1 0)) (q1 + 1) 0 (q0 + 1) 0 60) (q1 + 2) 0 (q0 + 2) 0 60) (q1 + 3) 0 (q0 + 3) 0 60) (q1 + 4) 0 (q0 + 4) 0 60) q0 5 ((cpS (cpS (cpS (cpS (su σ q0 0 (σ q1 0)) (q1 + 1) 0 (q0 + 1) 0 60) (q1 + 2) 0 (q0 + 2) 0 60) (q1 + 3) 0 (q0 + 3) 0 60) (q1 + 4) 0 (q0 + 4) 0 60) q1 5)) q1 6)) (q1 + 5) 0 (q0 + 5) 0 6) (q1 + 6) 0 (q0 + 6) 0 6) (q1 + 7) 0 (q0 + 7) 0 8) q1 10)) q1 11)) q1 12)) q1 13)) q0 14 ((su (su (su (su (cpS (cpS (cpS (su (su (cpS (cpS (cpS (cpS (su σ q0 0 (σ q1 0)) (q1 + 1) 0 (q0 + 1) 0 60) (q1 + 2) 0 (q0 + 2) 0 60) (q1 + 3) 0 (q0 + 3) 0 60) (q1 + 4) 0 (q0 + 4) 0 60) q0 5 ((cpS (cpS (cpS (cpS (su σ q0 0 (σ q1 0)) (q1 + 1) 0 (q0 + 1) 0 60) (q1 + 2) 0 (q0 + 2) 0 60) (q1 + 3) 0 (q0 + 3) 0 60) (q1 + 4) 0 (q0 + 4) 0 60) q1 5)) q0 6 ((su (cpS (cpS (cpS (cpS (su σ q0 0 (σ q1 0)) (q1 + 1) 0 (q0 + 1) 0 60) (q1 + 2) 0 (q0 + 2) 0 60) (q1 + 3) 0 (q0 + 3) 0 60) (q1 + 4) 0 (q0 + 4) 0 60) q0 5 ((cpS (cpS (cpS (cpS (su σ q0 0 (σ q1 0)) (q1 + 1) 0 (q0 + 1) 0 60) (q1 + 2) 0 (q0 + 2) 0 60) (q1 + 3) 0 (q0 + 3) 0 60) (q1 + 4) 0 (q0 + 4) 0 60) q1 5)) q1 6)) (q1 + 5) 0 (q0 + 5) 0 6) (q1 + 6) 0 (q0 + 6) 0 6) (q1 + 7) 0 (q0 + 7) 0 8) q0 10 ((cpS (cpS (cpS (su (su (cpS (cpS (cpS (cpS (su σ q0 0 (σ q1 0)) (q1 + 1) 0 (q0 + 1) 0 60) (q1 + 2) 0 (q0 + 2) 0 60) (q1 + 3) 0 (q0 + 3) 0 60) (q1 + 4) 0 (q0 + 4) 0 60) q0 5 ((cpS (cpS (cpS (cpS (su σ q0 0 (σ q1 0)) (q1 + 1) 0 (q0 + 1) 0 60) (q1 + 2) 0 (q0 + 2) 0 60) (q1 + 3) 0 (q0 + 3) 0 60) (q1 + 4) 0 (q0 + 4) 0 60) q1 5)) q0 6 ((su (cpS (cpS (cpS (cpS (su σ q0 0 (σ q1 0)) (q1 + 1) 0 (q0 + 1) 0 60) (q1 + 2) 0 (q0 + 2) 0 60) (q1 + 3) 0 (q0 + 3) 0 60) (q1 + 4) 0 (q0 + 4) 0 60) q0 5 ((cpS (cpS (cpS (cpS (su σ q0 0 (σ q1 0)) (q1 + 1) 0 (q0 + 1) 0 60) (q1 + 2) 0 (q0 + 2) 0 60) (q1 + 3) 0 (q0 + 3) 0 60) (q1 + 4) 0 (q0 + 4) 0 60) q1 5)) q1 6)) (q1 + 5) 0 (q0 + 5) 0 6) (q1 + 6) 0 (q0 + 6) 0 6) (q1 + 7) 0 (q0 + 7) 0 8) q1 10)) q0 11 ((su (cpS (cpS (cpS (su (su (cpS (cpS (cpS (cpS (su σ q0 0 (σ q1 0)) (q1 + 1) 0 (q0 + 1) 0 60) (q1 + 2) 0 (q0 + 2) 0 60) (q1 + 3) 0 (q0 + 3) 0 60) (q1 + 4) 0 (q0 + 4) 0 60) q0 5 ((cpS (cpS (cpS (cpS (su σ q0 0 (σ q1 0)) (q1 + 1) 0 (q0 + 1) 0 60) (q1 + 2) 0 (q0 + 2) 0 60) (q1 + 3) 0 (q0 + 3) 0 60) (q1 + 4) 0 (q0 + 4) 0 60) q1 5)) q0 6 ((su (cpS (cpS (cpS (cpS (su σ q0 0 (σ q1 0)) (q1 + 1) 0 (q0 + 1) 0 60) (q1 + 2) 0 (q0 + 2) 0 60) (q1 + 3) 0 (q0 + 3) 0 60) (q1 + 4) 0 (q0 + 4) 0 60) q0 5 ((cpS (cpS (cpS (cpS (su σ q0 0 (σ q1 0)) (q1 + 1) 0 (q0 + 1) 0 60) (q1 + 2) 0 (q0 + 2) 0 60) (q1 + 3) 0 (q0 + 3) 0 60) (q1 + 4) 0 (q0 + 4) 0 60) q1 5)) q1 6)) (q1 + 5) 0 (q0 + 5) 0 6) (q1 + 6) 0 (q0 + 6) 0 6) (q1 + 7) 0 (q0 + 7) 0 8) q0 10 ((cpS (cpS (cpS (su (su (cpS (cpS (cpS (cpS (su σ q0 0 (σ q1 0)) (q1 + 1) 0 (q0 + 1) 0 60) (q1 + 2) 0 (q0 + 2) 0 60) (q1 + 3) 0 (q0 + 3) 0 60) (q1 + 4) 0 (q0 + 4) 0 60) q0 5 ((cpS (cpS (cpS (cpS (su σ q0 0 (σ q1 0)) (q1 + 1) 0 (q0 + 1) 0 60) (q1 + 2) 0 (q0 + 2) 0 60) (q1 + 3) 0 (q0 + 3) 0 60) (q1 + 4) 0 (q0 + 4) 0 60) q1 5)) q0 6 ((su (cpS (cpS (cpS (cpS (su σ q0 0 (σ q1 0)) (q1 + 1) 0 (q0 + 1) 0 60) (q1 + 2) 0 (q0 + 2) 0 60) (q1 + 3) 0 (q0 + 3) 0 60) (q1 + 4) 0 (q0 + 4) 0 60) q0 5 ((cpS (cpS (cpS (cpS (su σ q0 0 (σ q1 0)) (q1 + 1) 0 (q0 + 1) 0 60) (q1 + 2) 0 (q0 + 2) 0 60) (q1 + 3) 0 (q0 + 3) 0 60) (q1 + 4) 0 (q0 + 4) 0 60) q1 5)) q1 6)) (q1 + 5) 0 (q0 + 5) 0 6) (q1 + 6) 0 (q0 + 6) 0 6) (q1 + 7) 0 (q0 + 7) 0 8) q1 10)) q1 11)) q0 12 ((su (su (cpS (cpS (cpS (su (su (cpS (cpS (cpS (cpS (su σ q0 0 (σ q1 0)) (q1 + 1) 0 (q0 + 1) 0 60) (q1 + 2) 0 (q0 + 2) 0 60) (q1 + 3) 0 (q0 + 3) 0 60) (q1 + 4) 0 (q0 + 4) 0 60) q0 5 ((cpS (cpS (cpS (cpS (su σ q0 0 (σ q1 0)) (q1 + 1) 0 (q0 + 1) 0 60) (q1 + 2) 0 (q0 + 2) 0 60) (q1 + 3) 0 (q0 + 3) 0 60) (q1 + 4) 0 (q0 + 4) 0 60) q1 5)) q0 6 ((su (cpS (cpS (cpS (cpS (su σ q0 0 (σ q1 0)) (q1 + 1) 0 (q0 + 1) 0 60) (q1 + 2) 0 (q0 + 2) 0 60) (q1 + 3) 0 (q0 + 3) 0 60) (q1 + 4) 0 (q0 + 4) 0 60) q0 5 ((cpS (cpS (cpS (cpS (su σ q0 0 (σ q1 0)) (q1 + 1) 0 (q0 + 1) 0 60) (q1 + 2) 0 (q0 + 2) 0 60) (q1 + 3) 0 (q0 + 3) 0 60) (q1 + 4) 0 (q0 + 4) 0 60) q1 5)) q1 6)) (q1 + 5) 0 (q0 + 5) 0 6) (q1 + 6) 0 (q0 + 6) 0 6) (q1 + 7) 0 (q0 + 7) 0 8) q0 10 ((cpS (cpS (cpS (su (su (cpS (cpS (cpS (cpS (su σ q0 0 (σ q1 0)) (q1 + 1) 0 (q0 + 1) 0 60) (q1 + 2) 0 (q0 + 2) 0 60) (q1 + 3) 0 (q0 + 3) 0 60) (q1 + 4) 0 (q0 + 4) 0 60) q0 5 ((cpS (cpS (cpS (cpS (su σ q0 0 (σ q1 0)) (q1 + 1) 0 (q0 + 1) 0 60) (q1 + 2) 0 (q0 + 2) 0 60) (q1 + 3) 0 (q0 + 3) 0 60) (q1 + 4) 0 (q0 + 4) 0 60) q1 5)) q0 6 ((su (cpS (cpS (cpS (cpS (su σ q0 0 (σ q1 0)) (q1 + 1) 0 (q0 + 1) 0 60) (q1 + 2) 0 (q0 + 2) 0 60) (q1 + 3) 0 (q0 + 3) 0 60) (q1 + 4) 0 (q0 + 4) 0 60) q0 5 ((cpS (cpS (cpS (cpS (su σ q0 0 (σ q1 0)) (q1 + 1) 0 (q0 + 1) 0 60) (q1 + 2) 0 (q0 + 2) 0 60) (q1 + 3) 0 (q0 + 3) 0 60) (q1 + 4) 0 (q0 + 4) 0 60) q1 5)) q1 6)) (q1 + 5) 0 (q0 + 5) 0 6) (q1 + 6) 0 (q0 + 6) 0 6) (q1 + 7) 0 (q0 + 7) 0 8) q1 10)) q0 11 ((su (cpS (cpS (cpS (su (su (cpS (cpS (cpS (cpS (su σ q0 0 (σ q1 0)) (q1 + 1) 0 (q0 + 1) 0 60) (q1 + 2) 0 (q0 + 2) 0 60) (q1 + 3) 0 (q0 + 3) 0 60) (q1 + 4) 0 (q0 + 4) 0 60) q0 5 ((cpS (cpS (cpS (cpS (su σ q0 0 (σ q1 0)) (q1 + 1) 0 (q0 + 1) 0 60) (q1 + 2) 0 (q0 + 2) 0 60) (q1 + 3) 0 (q0 + 3) 0 60) (q1 + 4) 0 (q0 + 4) 0 60) q1 5)) q0 6 ((su (cpS (cpS (cpS (cpS (su σ q0 0 (σ q1 0)) (q1 + 1) 0 (q0 + 1) 0 60) (q1 + 2) 0 (q0 + 2) 0 60) (q1 + 3) 0 (q0 + 3) 0 60) (q1 + 4) 0 (q0 + 4) 0 60) q0 5 ((cpS (cpS (cpS (cpS (su σ q0 0 (σ q1 0)) (q1 + 1) 0 (q0 + 1) 0 60) (q1 + 2) 0 (q0 + 2) 0 60) (q1 + 3) 0 (q0 + 3) 0 60) (q1 + 4) 0 (q0 + 4) 0 60) q1 5)) q1 6)) (q1 + 5) 0 (q0 + 5) 0 6) (q1 + 6) 0 (q0 + 6) 0 6) (q1 + 7) 0 (q0 + 7) 0 8) q0 10 ((cpS (cpS (cpS (su (su (cpS (cpS (cpS (cpS (su σ q0 0 (σ q1 0)) (q1 + 1) 0 (q0 + 1) 0 60) (q1 + 2) 0 (q0 + 2) 0 60) (q1 + 3) 0 (q0 + 3) 0 60) (q1 + 4) 0 (q0 + 4) 0 60) q0 5 ((cpS (cpS (cpS (cpS (su σ q0 0 (σ q1 0)) (q1 + 1) 0 (q0 + 1) 0 60) (q1 + 2) 0 (q0 + 2) 0 60) (q1 + 3) 0 (q0 + 3) 0 60) (q1 + 4) 0 (q0 + 4) 0 60) q1 5)) q0 6 ((su (cpS (cpS (cpS (cpS (su σ q0 0 (σ q1 0)) (q1 + 1) 0 (q0 + 1) 0 60) (q1 + 2) 0 (q0 + 2) 0 60) (q1 + 3) 0 (q0 + 3) 0 60) (q1 + 4) 0 (q0 + 4) 0 60) q0 5 ((cpS (cpS (cpS (cpS (su σ q0 0 (σ q1 0)) (q1 + 1) 0 (q0 + 1) 0 60) (q1 + 2) 0 (q0 + 2) 0 60) (q1 + 3) 0 (q0 + 3) 0 60) (q1 + 4) 0 (q0 + 4) 0 60) q1 5)) q1 6)) (q1 + 5) 0 (q0 + 5) 0 6) (q1 + 6) 0 (q0 + 6) 0 6) (q1 + 7) 0 (q0 + 7) 0 8) q1 10)) q1 11)) q1 12)) q0 13 ((su (su (su (cpS (cpS (cpS (su (su (cpS (cpS (cpS (cpS (su σ q0 0 (σ q1 0)) (q1 + 1) 0 (q0 + 1) 0 60) (q1 + 2) 0 (q0 + 2) 0 60) (q1 + 3) 0 (q0 + 3) 0 60) (q1 + 4) 0 (q0 + 4) 0 60) q0 5 ((cpS (cpS (cpS (cpS (su σ q0 0 (σ q1 0)) (q1 + 1) 0 (q0 + 1) 0 60) (q1 + 2) 0 (q0 + 2) 0 60) (q1 + 3) 0 (q0 + 3) 0 60) (q1 + 4) 0 (q0 + 4) 0 60) q1 5)) q0 6 ((su (cpS (cpS (cpS (cpS (su σ q0 0 (σ q1 0)) (q1 + 1) 0 (q0 + 1) 0 60) (q1 + 2) 0 (q0 + 2) 0 60) (q1 + 3) 0 (q0 + 3) 0 60) (q1 + 4) 0 (q0 + 4) 0 60) q0 5 ((cpS (cpS (cpS (cpS (su σ q0 0 (σ q1 0)) (q1 + 1) 0 (q0 + 1) 0 60) (q1 + 2) 0 (q0 + 2) 0 60) (q1 + 3) 0 (q0 + 3) 0 60) (q1 + 4) 0 (q0 + 4) 0 60) q1 5)) q1 6)) (q1 + 5) 0 (q0 + 5) 0 6) (q1 + 6) 0 (q0 + 6) 0 6) (q1 + 7) 0 (q0 + 7) 0 8) q0 10 ((cpS (cpS (cpS (su (su (cpS (cpS (cpS (cpS (su σ q0 0 (σ q1 0)) (q1 + 1) 0 (q0 + 1) 0 60) (q1 + 2) 0 (q0 + 2) 0 60) (q1 + 3) 0 (q0 + 3) 0 60) (q1 + 4) 0 (q0 + 4) 0 60) q0 5 ((cpS (cpS (cpS (cpS (su σ q0 0 (σ q1 0)) (q1 + 1) 0 (q0 + 1) 0 60) (q1 + 2) 0 (q0 + 2) 0 60) (q1 + 3) 0 (q0 + 3) 0 60) (q1 + 4) 0 (q0 + 4) 0 60) q1 5)) q0 6 ((su (cpS (cpS (cpS (cpS (su σ q0 0 (σ q1 0)) (q1 + 1) 0 (q0 + 1) 0 60) (q1 + 2) 0 (q0 + 2) 0 60) (q1 + 3) 0 (q0 + 3) 0 60) (q1 + 4) 0 (q0 + 4) 0 60) q0 5 ((cpS (cpS (cpS (cpS (su σ q0 0 (σ q1 0)) (q1 + 1) 0 (q0 + 1) 0 60) (q1 + 2) 0 (q0 + 2) 0 60) (q1 + 3) 0 (q0 + 3) 0 60) (q1 + 4) 0 (q0 + 4) 0 60) q1 5)) q1 6)) (q1 + 5) 0 (q0 + 5) 0 6) (q1 + 6) 0 (q0 + 6) 0 6) (q1 + 7) 0 (q0 + 7) 0 8) q1 10)) q0 11 ((su (cpS (cpS (cpS (su (su (cpS (cpS (cpS (cpS (su σ q0 0 (σ q1 0)) (q1 + 1) 0 (q0 + 1) 0 60) (q1 + 2) 0 (q0 + 2) 0 60) (q1 + 3) 0 (q0 + 3) 0 60) (q1 + 4) 0 (q0 + 4) 0 60) q0 5 ((cpS (cpS (cpS (cpS (su σ q0 0 (σ q1 0)) (q1 + 1) 0 (q0 + 1) 0 60) (q1 + 2) 0 (q0 + 2) 0 60) (q1 + 3) 0 (q0 + 3) 0 60) (q1 + 4) 0 (q0 + 4) 0 60) q1 5)) q0 6 ((su (cpS (cpS (cpS (cpS (su σ q0 0 (σ q1 0)) (q1 + 1) 0 (q0 + 1) 0 60) (q1 + 2) 0 (q0 + 2) 0 60) (q1 + 3) 0 (q0 + 3) 0 60) (q1 + 4) 0 (q0 + 4) 0 60) q0 5 ((cpS (cpS (cpS (cpS (su σ q0 0 (σ q1 0)) (q1 + 1) 0 (q0 + 1) 0 60) (q1 + 2) 0 (q0 + 2) 0 60) (q1 + 3) 0 (q0 + 3) 0 60) (q1 + 4) 0 (q0 + 4) 0 60) q1 5)) q1 6)) (q1 + 5) 0 (q0 + 5) 0 6) (q1 + 6) 0 (q0 + 6) 0 6) (q1 + 7) 0 (q0 + 7) 0 8) q0 10 ((cpS (cpS (cpS (su (su (cpS (cpS (cpS (cpS (su σ q0 0 (σ q1 0)) (q1 + 1) 0 (q0 + 1) 0 60) (q1 + 2) 0 (q0 + 2) 0 60) (q1 + 3) 0 (q0 + 3) 0 60) (q1 + 4) 0 (q0 + 4) 0 60) q0 5 ((cpS (cpS (cpS (cpS (su σ q0 0 (σ q1 0)) (q1 + 1) 0 (q0 + 1) 0 60) (q1 + 2) 0 (q0 + 2) 0 60) (q1 + 3) 0 (q0 + 3) 0 60) (q1 + 4) 0 (q0 + 4) 0 60) q1 5)) q0 6 ((su (cpS (cpS (cpS (cpS (su σ q0 0 (σ q1 0)) (q1 + 1) 0 (q0 + 1) 0 60) (q1 + 2) 0 (q0 + 2) 0 60) (q1 + 3) 0 (q0 + 3) 0 60) (q1 + 4) 0 (q0 + 4) 0 60) q0 5 ((cpS (cpS (cpS (cpS (su σ q0 0 (σ q1 0)) (q1 + 1) 0 (q0 + 1) 0 60) (q1 + 2) 0 (q0 + 2) 0 60) (q1 + 3) 0 (q0 + 3) 0 60) (q1 + 4) 0 (q0 + 4) 0 60) q1 5)) q1 6)) (q1 + 5) 0 (q0 + 5) 0 6) (q1 + 6) 0 (q0 + 6) 0 6) (q1 + 7) 0 (q0 + 7) 0 8) q1 10)) q1 11)) q0 12 ((su (su (cpS (cpS (cpS (su (su (cpS (cpS (cpS (cpS (su σ q0 0 (σ q1 0)) (q1 + 1) 0 (q0 + 1) 0 60) (q1 + 2) 0 (q0 + 2) 0 60) (q1 + 3) 0 (q0 + 3) 0 60) (q1 + 4) 0 (q0 + 4) 0 60) q0 5 ((cpS (cpS (cpS (cpS (su σ q0 0 (σ q1 0)) (q1 + 1) 0 (q0 + 1) 0 60) (q1 + 2) 0 (q0 + 2) 0 60) (q1 + 3) 0 (q0 + 3) 0 60) (q1 + 4) 0 (q0 + 4) 0 60) q1 5)) q0 6 ((su (cpS (cpS (cpS (cpS (su σ q0 0 (σ q1 0)) (q1 + 1) 0 (q0 + 1) 0 60) (q1 + 2) 0 (q0 + 2) 0 60) (q1 + 3) 0 (q0 + 3) 0 60) (q1 + 4) 0 (q0 + 4) 0 60) q0 5 ((cpS (cpS (cpS (cpS (su σ q0 0 (σ q1 0)) (q1 + 1) 0 (q0 + 1) 0 60) (q1 + 2) 0 (q0 + 2) 0 60) (q1 + 3) 0 (q0 + 3) 0 60) (q1 + 4) 0 (q0 + 4) 0 60) q1 5)) q1 6)) (q1 + 5) 0 (q0 + 5) 0 6) (q1 + 6) 0 (q0 + 6) 0 6) (q1 + 7) 0 (q0 + 7) 0 8) q0 10 ((cpS (cpS (cpS (su (su (cpS (cpS (cpS (cpS (su σ q0 0 (σ q1 0)) (q1 + 1) 0 (q0 + 1) 0 60) (q1 + 2) 0 (q0 + 2) 0 60) (q1 + 3) 0 (q0 + 3) 0 60) (q1 + 4) 0 (q0 + 4) 0 60) q0 5 ((cpS (cpS (cpS (cpS (su σ q0 0 (σ q1 0)) (q1 + 1) 0 (q0 + 1) 0 60) (q1 + 2) 0 (q0 + 2) 0 60) (q1 + 3) 0 (q0 + 3) 0 60) (q1 + 4) 0 (q0 + 4) 0 60) q1 5)) q0 6 ((su (cpS (cpS (cpS (cpS (su σ q0 0 (σ q1 0)) (q1 + 1) 0 (q0 + 1) 0 60) (q1 + 2) 0 (q0 + 2) 0 60) (q1 + 3) 0 (q0 + 3) 0 60) (q1 + 4) 0 (q0 + 4) 0 60) q0 5 ((cpS (cpS (cpS (cpS (su σ q0 0 (σ q1 0)) (q1 + 1) 0 (q0 + 1) 0 60) (q1 + 2) 0 (q0 + 2) 0 60) (q1 + 3) 0 (q0 + 3) 0 60) (q1 + 4) 0 (q0 + 4) 0 60) q1 5)) q1 6)) (q1 + 5) 0 (q0 + 5) 0 6) (q1 + 6) 0 (q0 + 6) 0 6) (q1 + 7) 0 (q0 + 7) 0 8) q1 10)) q0 11 ((su (cpS (cpS (cpS (su (su (cpS (cpS (cpS (cpS (su σ q0 0 (σ q1 0)) (q1 + 1) 0 (q0 + 1) 0 60) (q1 + 2) 0 (q0 + 2) 0 60) (q1 + 3) 0 (q0 + 3) 0 60) (q1 + 4) 0 (q0 + 4) 0 60) q0 5 ((cpS (cpS (cpS (cpS (su σ q0 0 (σ q1 0)) (q1 + 1) 0 (q0 + 1) 0 60) (q1 + 2) 0 (q0 + 2) 0 60) (q1 + 3) 0 (q0 + 3) 0 60) (q1 + 4) 0 (q0 + 4) 0 60) q1 5)) q0 6 ((su (cpS (cpS (cpS (cpS (su σ q0 0 (σ q1 0)) (q1 + 1) 0 (q0 + 1) 0 60) (q1 + 2) 0 (q0 + 2) 0 60) (q1 + 3) 0 (q0 + 3) 0 60) (q1 + 4) 0 (q0 + 4) 0 60) q0 5 ((cpS (cpS (cpS (cpS (su σ q0 0 (σ q1 0)) (q1 + 1) 0 (q0 + 1) 0 60) (q1 + 2) 0 (q0 + 2) 0 60) (q1 + 3) 0 (q0 + 3) 0 60) (q1 + 4) 0 (q0 + 4) 0 60) q1 5)) q1 6)) (q1 + 5) 0 (q0 + 5) 0 6) (q1 + 6) 0 (q0 + 6) 0 6) (q1 + 7) 0 (q0 + 7) 0 8) q0 10 ((cpS (cpS (cpS (su (su (cpS (cpS (cpS (cpS (su σ q0 0 (σ q1 0)) (q1 + 1) 0 (q0 + 1) 0 60) (q1 + 2) 0 (q0 + 2) 0 60) (q1 + 3) 0 (q0 + 3) 0 60) (q1 + 4) 0 (q0 + 4) 0 60) q0 5 ((cpS (cpS (cpS (cpS (su σ q0 0 (σ q1 0)) (q1 + 1) 0 (q0 + 1) 0 60) (q1 + 2) 0 (q0 + 2) 0 60) (q1 + 3) 0 (q0 + 3) 0 60) (q1 + 4) 0 (q0 + 4) 0 60) q1 5)) q0 6 ((su (cpS (cpS (cpS (cpS (su σ q0 0 (σ q1 0)) (q1 + 1) 0 (q0 + 1) 0 60) (q1 + 2) 0 (q0 + 2) 0 60) (q1 + 3) 0 (q0 + 3) 0 60) (q1 + 4) 0 (q0 + 4) 0 60) q0 5 ((cpS (cpS (cpS (cpS (su σ q0 0 (σ q1 0)) (q1 + 1) 0 (q0 + 1) 0 60) (q1 + 2) 0 (q0 + 2) 0 60) (q1 + 3) 0 (q0 + 3) 0 60) (q1 + 4) 0 (q0 + 4) 0 60) q1 5)) q1 6)) (q1 + 5) 0 (q0 + 5) 0 6) (q1 + 6) 0 (q0 + 6) 0 6) (q1 + 7) 0 (q0 + 7) 0 8) q1 10)) q1 11)) q1 12)) q1 13)) q1 14)) q0 15 ((su (su (su (su (su (cpS (cpS (cpS (su (su (cpS (cpS (cpS (cpS (su σ q0 0 (σ q1 0)) (q1 + 1) 0 (q0 + 1) 0 60) (q1 + 2) 0 (q0 + 2) 0 60) (q1 + 3) 0 (q0 + 3) 0 60) (q1 + 4) 0 (q0 + 4) 0 60) q0 5 ((cpS (cpS (cpS (cpS (su σ q0 0 (σ q1 0)) (q1 + 1) 0 (q0 + 1) 0 60) (q1 + 2) 0 (q0 + 2) 0 60) (q1 + 3) 0 (q0 + 3) 0 60) (q1 + 4) 0 (q0 + 4) 0 60) q1 5)) q0 6 ((su (cpS (cpS (cpS (cpS (su σ q0 0 (σ q1 0)) (q1 + 1) 0 (q0 + 1) 0 60) (q1 + 2) 0 (q0 + 2) 0 60) (q1 + 3) 0 (q0 + 3) 0 60) (q1 + 4) 0 (q0 + 4) 0 60) q0 5 ((cpS (cpS (cpS (cpS (su σ q0 0 (σ q1 0)) (q1 + 1) 0 (q0 + 1) 0 60) (q1 + 2) 0 (q0 + 2) 0 60) (q1 + 3) 0 (q0 + 3) 0 60) (q1 + 4) 0 (q0 + 4) 0 60) q1 5)) q1 6)) (q1 + 5) 0 (q0 + 5) 0 6) (q1 + 6) 0 (q0 + 6) 0 6) (q1 + 7) 0 (q0 + 7) 0 8) q0 10 ((cpS (cpS (cpS (su (su (cpS (cpS (cpS (cpS (su σ q0 0 (σ q1 0)) (q1 + 1) 0 (q0 + 1) 0 60) (q1 + 2) 0 (q0 + 2) 0 60) (q1 + 3) 0 (q0 + 3) 0 60) (q1 + 4) 0 (q0 + 4) 0 60) q0 5 ((cpS (cpS (cpS (cpS (su σ q0 0 (σ q1 0)) (q1 + 1) 0 (q0 + 1) 0 60) (q1 + 2) 0 (q0 + 2) 0 60) (q1 + 3) 0 (q0 + 3) 0 60) (q1 + 4) 0 (q0 + 4) 0 60) q1 5)) q0 6 ((su (cpS (cpS (cpS (cpS (su σ q0 0 (σ q1 0)) (q1 + 1) 0 (q0 + 1) 0 60) (q1 + 2) 0 (q0 + 2) 0 60) (q1 + 3) 0 (q0 + 3) 0 60) (q1 + 4) 0 (q0 + 4) 0 60) q0 5 ((cpS (cpS (cpS (cpS (su σ q0 0 (σ q1 0)) (q1 + 1) 0 (q0 + 1) 0 60) (q1 + 2) 0 (q0 + 2) 0 60) (q1 + 3) 0 (q0 + 3) 0 60) (q1 + 4) 0 (q0 + 4) 0 60) q1 5)) q1 6)) (q1 + 5) 0 (q0 + 5) 0 6) (q1 + 6) 0 (q0 + 6) 0 6) (q1 + 7) 0 (q0 + 7) 0 8) q1 10)) q0 11 ((su (cpS (cpS (cpS (su (su (cpS (cpS (cpS (cpS (su σ q0 0 (σ q1 0)) (q1 + 1) 0 (q0 + 1) 0 60) (q1 + 2) 0 (q0 + 2) 0 60) (q1 + 3) 0 (q0 + 3) 0 60) (q1 + 4) 0 (q0 + 4) 0 60) q0 5 ((cpS (cpS (cpS (cpS (su σ q0 0 (σ q1 0)) (q1 + 1) 0 (q0 + 1) 0 60) (q1 + 2) 0 (q0 + 2) 0 60) (q1 + 3) 0 (q0 + 3) 0 60) (q1 + 4) 0 (q0 + 4) 0 60) q1 5)) q0 6 ((su (cpS (cpS (cpS (cpS (su σ q0 0 (σ q1 0)) (q1 + 1) 0 (q0 + 1) 0 60) (q1 + 2) 0 (q0 + 2) 0 60) (q1 + 3) 0 (q0 + 3) 0 60) (q1 + 4) 0 (q0 + 4) 0 60) q0 5 ((cpS (cpS (cpS (cpS (su σ q0 0 (σ q1 0)) (q1 + 1) 0 (q0 + 1) 0 60) (q1 + 2) 0 (q0 + 2) 0 60) (q1 + 3) 0 (q0 + 3) 0 60) (q1 + 4) 0 (q0 + 4) 0 60) q1 5)) q1 6)) (q1 + 5) 0 (q0 + 5) 0 6) (q1 + 6) 0 (q0 + 6) 0 6) (q1 + 7) 0 (q0 + 7) 0 8) q0 10 ((cpS (cpS (cpS (su (su (cpS (cpS (cpS (cpS (su σ q0 0 (σ q1 0)) (q1 + 1) 0 (q0 + 1) 0 60) (q1 + 2) 0 (q0 + 2) 0 60) (q1 + 3) 0 (q0 + 3) 0 60) (q1 + 4) 0 (q0 + 4) 0 60) q0 5 ((cpS (cpS (cpS (cpS (su σ q0 0 (σ q1 0)) (q1 + 1) 0 (q0 + 1) 0 60) (q1 + 2) 0 (q0 + 2) 0 60) (q1 + 3) 0 (q0 + 3) 0 60) (q1 + 4) 0 (q0 + 4) 0 60) q1 5)) q0 6 ((su (cpS (cpS (cpS (cpS (su σ q0 0 (σ q1 0)) (q1 + 1) 0 (q0 + 1) 0 60) (q1 + 2) 0 (q0 + 2) 0 60) (q1 + 3) 0 (q0 + 3) 0 60) (q1 + 4) 0 (q0 + 4) 0 60) q0 5 ((cpS (cpS (cpS (cpS (su σ q0 0 (σ q1 0)) (q1 + 1) 0 (q0 + 1) 0 60) (q1 + 2) 0 (q0 + 2) 0 60) (q1 + 3) 0 (q0 + 3) 0 60) (q1 + 4) 0 (q0 + 4) 0 60) q1 5)) q1 6)) (q1 + 5) 0 (q0 + 5) 0 6) (q1 + 6) 0 (q0 + 6) 0 6) (q1 + 7) 0 (q0 + 7) 0 8) q1 10)) q1 11)) q0 12 ((su (su (cpS (cpS (cpS (su (su (cpS (cpS (cpS (cpS (su σ q0 0 (σ q1 0)) (q1 + 1) 0 (q0 + 1) 0 60) (q1 + 2) 0 (q0 + 2) 0 60) (q1 + 3) 0 (q0 + 3) 0 60) (q1 + 4) 0 (q0 + 4) 0 60) q0 5 ((cpS (cpS (cpS (cpS (su σ q0 0 (σ q1 0)) (q1 + 1) 0 (q0 + 1) 0 60) (q1 + 2) 0 (q0 + 2) 0 60) (q1 + 3) 0 (q0 + 3) 0 60) (q1 + 4) 0 (q0 + 4) 0 60) q1 5)) q0 6 ((su (cpS (cpS (cpS (cpS (su σ q0 0 (σ q1 0)) (q1 + 1) 0 (q0 + 1) 0 60) (q1 + 2) 0 (q0 + 2) 0 60) (q1 + 3) 0 (q0 + 3) 0 60) (q1 + 4) 0 (q0 + 4) 0 60) q0 5 ((cpS (cpS (cpS (cpS (su σ q0 0 (σ q1 0)) (q1 + 1) 0 (q0 + 1) 0 60) (q1 + 2) 0 (q0 + 2) 0 60) (q1 + 3) 0 (q0 + 3) 0 60) (q1 + 4) 0 (q0 + 4) 0 60) q1 5)) q1 6)) (q1 + 5) 0 (q0 + 5) 0 6) (q1 + 6) 0 (q0 + 6) 0 6) (q1 + 7) 0 (q0 + 7) 0 8) q0 10 ((cpS (cpS (cpS (su (su (cpS (cpS (cpS (cpS (su σ q0 0 (σ q1 0)) (q1 + 1) 0 (q0 + 1) 0 60) (q1 + 2) 0 (q0 + 2) 0 60) (q1 + 3) 0 (q0 + 3) 0 60) (q1 + 4) 0 (q0 + 4) 0 60) q0 5 ((cpS (cpS (cpS (cpS (su σ q0 0 (σ q1 0)) (q1 + 1) 0 (q0 + 1) 0 60) (q1 + 2) 0 (q0 + 2) 0 60) (q1 + 3) 0 (q0 + 3) 0 60) (q1 + 4) 0 (q0 + 4) 0 60) q1 5)) q0 6 ((su (cpS (cpS (cpS (cpS (su σ q0 0 (σ q1 0)) (q1 + 1) 0 (q0 + 1) 0 60) (q1 + 2) 0 (q0 + 2) 0 60) (q1 + 3) 0 (q0 + 3) 0 60) (q1 + 4) 0 (q0 + 4) 0 60) q0 5 ((cpS (cpS (cpS (cpS (su σ q0 0 (σ q1 0)) (q1 + 1) 0 (q0 + 1) 0 60) (q1 + 2) 0 (q0 + 2) 0 60) (q1 + 3) 0 (q0 + 3) 0 60) (q1 + 4) 0 (q0 + 4) 0 60) q1 5)) q1 6)) (q1 + 5) 0 (q0 + 5) 0 6) (q1 + 6) 0 (q0 + 6) 0 6) (q1 + 7) 0 (q0 + 7) 0 8) q1 10)) q0 11 ((su (cpS (cpS (cpS (su (su (cpS (cpS (cpS (cpS (su σ q0 0 (σ q1 0)) (q1 + 1) 0 (q0 + 1) 0 60) (q1 + 2) 0 (q0 + 2) 0 60) (q1 + 3) 0 (q0 + 3) 0 60) (q1 + 4) 0 (q0 + 4) 0 60) q0 5 ((cpS (cpS (cpS (cpS (su σ q0 0 (σ q1 0)) (q1 + 1) 0 (q0 + 1) 0 60) (q1 + 2) 0 (q0 + 2) 0 60) (q1 + 3) 0 (q0 + 3) 0 60) (q1 + 4) 0 (q0 + 4) 0 60) q1 5)) q0 6 ((su (cpS (cpS (cpS (cpS (su σ q0 0 (σ q1 0)) (q1 + 1) 0 (q0 + 1) 0 60) (q1 + 2) 0 (q0 + 2) 0 60) (q1 + 3) 0 (q0 + 3) 0 60) (q1 + 4) 0 (q0 + 4) 0 60) q0 5 ((cpS (cpS (cpS (cpS (su σ q0 0 (σ q1 0)) (q1 + 1) 0 (q0 + 1) 0 60) (q1 + 2) 0 (q0 + 2) 0 60) (q1 + 3) 0 (q0 + 3) 0 60) (q1 + 4) 0 (q0 + 4) 0 60) q1 5)) q1 6)) (q1 + 5) 0 (q0 + 5) 0 6) (q1 + 6) 0 (q0 + 6) 0 6) (q1 + 7) 0 (q0 + 7) 0 8) q0 10 ((cpS (cpS (cpS (su (su (cpS (cpS (cpS (cpS (su σ q0 0 (σ q1 0)) (q1 + 1) 0 (q0 + 1) 0 60) (q1 + 2) 0 (q0 + 2) 0 60) (q1 + 3) 0 (q0 + 3) 0 60) (q1 + 4) 0 (q0 + 4) 0 60) q0 5 ((cpS (cpS (cpS (cpS (su σ q0 0 (σ q1 0)) (q1 + 1) 0 (q0 + 1) 0 60) (q1 + 2) 0 (q0 + 2) 0 60) (q1 + 3) 0 (q0 + 3) 0 60) (q1 + 4) 0 (q0 + 4) 0 60) q1 5)) q0 6 ((su (cpS (cpS (cpS (cpS (su σ q0 0 (σ q1 0)) (q1 + 1) 0 (q0 + 1) 0 60) (q1 + 2) 0 (q0 + 2) 0 60) (q1 + 3) 0 (q0 + 3) 0 60) (q1 + 4) 0 (q0 + 4) 0 60) q0 5 ((cpS (cpS (cpS (cpS (su σ q0 0 (σ q1 0)) (q1 + 1) 0 (q0 + 1) 0 60) (q1 + 2) 0 (q0 + 2) 0 60) (q1 + 3) 0 (q0 + 3) 0 60) (q1 + 4) 0 (q0 + 4) 0 60) q1 5)) q1 6)) (q1 + 5) 0 (q0 + 5) 0 6) (q1 + 6) 0 (q0 + 6) 0 6) (q1 + 7) 0 (q0 + 7) 0 8) q1 10)) q1 11)) q1 12)) q0 13 ((su (su (su (cpS (cpS (cpS (su (su (cpS (cpS (cpS (cpS (su σ q0 0 (σ q1 0)) (q1 + 1) 0 (q0 + 1) 0 60) (q1 + 2) 0 (q0 + 2) 0 60) (q1 + 3) 0 (q0 + 3) 0 60) (q1 + 4) 0 (q0 + 4) 0 60) q0 5 ((cpS (cpS (cpS (cpS (su σ q0 0 (σ q1 0)) (q1 + 1) 0 (q0 + 1) 0 60) (q1 + 2) 0 (q0 + 2) 0 60) (q1 + 3) 0 (q0 + 3) 0 60) (q1 + 4) 0 (q0 + 4) 0 60) q1 5)) q0 6 ((su (cpS (cpS (cpS (cpS (su σ q0 0 (σ q1 0)) (q1 + 1) 0 (q0 + 1) 0 60) (q1 + 2) 0 (q0 + 2) 0 60) (q1 + 3) 0 (q0 + 3) 0 60) (q1 + 4) 0 (q0 + 4) 0 60) q0 5 ((cpS (cpS (cpS (cpS (su σ q0 0 (σ q1 0)) (q1 + 1) 0 (q0 + 1) 0 60) (q1 + 2) 0 (q0 + 2) 0 60) (q1 + 3) 0 (q0 + 3) 0 60) (q1 + 4) 0 (q0 + 4) 0 60) q1 5)) q1 6)) (q1 + 5) 0 (q0 + 5) 0 6) (q1 + 6) 0 (q0 + 6) 0 6) (q1 + 7) 0 (q0 + 7) 0 8) q0 10 ((cpS (cpS (cpS (su (su (cpS (cpS (cpS (cpS (su σ q0 0 (σ q1 0)) (q1 + 1) 0 (q0 + 1) 0 60) (q1 + 2) 0 (q0 + 2) 0 60) (q1 + 3) 0 (q0 + 3) 0 60) (q1 + 4) 0 (q0 + 4) 0 60) q0 5 ((cpS (cpS (cpS (cpS (su σ q0 0 (σ q1 0)) (q1 + 1) 0 (q0 + 1) 0 60) (q1 + 2) 0 (q0 + 2) 0 60) (q1 + 3) 0 (q0 + 3) 0 60) (q1 + 4) 0 (q0 + 4) 0 60) q1 5)) q0 6 ((su (cpS (cpS (cpS (cpS (su σ q0 0 (σ q1 0)) (q1 + 1) 0 (q0 + 1) 0 60) (q1 + 2) 0 (q0 + 2) 0 60) (q1 + 3) 0 (q0 + 3) 0 60) (q1 + 4) 0 (q0 + 4) 0 60) q0 5 ((cpS (cpS (cpS (cpS (su σ q0 0 (σ q1 0)) (q1 + 1) 0 (q0 + 1) 0 60) (q1 + 2) 0 (q0 + 2) 0 60) (q1 + 3) 0 (q0 + 3) 0 60) (q1 + 4) 0 (q0 + 4) 0 60) q1 5)) q1 6)) (q1 + 5) 0 (q0 + 5) 0 6) (q1 + 6) 0 (q0 + 6) 0 6) (q1 + 7) 0 (q0 + 7) 0 8) q1 10)) q0 11 ((su (cpS (cpS (cpS (su (su (cpS (cpS (cpS (cpS (su σ q0 0 (σ q1 0)) (q1 + 1) 0 (q0 + 1) 0 60) (q1 + 2) 0 (q0 + 2) 0 60) (q1 + 3) 0 (q0 + 3) 0 60) (q1 + 4) 0 (q0 + 4) 0 60) q0 5 ((cpS (cpS (cpS (cpS (su σ q0 0 (σ q1 0)) (q1 + 1) 0 (q0 + 1) 0 60) (q1 + 2) 0 (q0 + 2) 0 60) (q1 + 3) 0 (q0 + 3) 0 60) (q1 + 4) 0 (q0 + 4) 0 60) q1 5)) q0 6 ((su (cpS (cpS (cpS (cpS (su σ q0 0 (σ q1 0)) (q1 + 1) 0 (q0 + 1) 0 60) (q1 + 2) 0 (q0 + 2) 0 60) (q1 + 3) 0 (q0 + 3) 0 60) (q1 + 4) 0 (q0 + 4) 0 60) q0 5 ((cpS (cpS (cpS (cpS (su σ q0 0 (σ q1 0)) (q1 + 1) 0 (q0 + 1) 0 60) (q1 + 2) 0 (q0 + 2) 0 60) (q1 + 3) 0 (q0 + 3) 0 60) (q1 + 4) 0 (q0 + 4) 0 60) q1 5)) q1 6)) (q1 + 5) 0 (q0 + 5) 0 6) (q1 + 6) 0 (q0 + 6) 0 6) (q1 + 7) 0 (q0 + 7) 0 8) q0 10 ((cpS (cpS (cpS (su (su (cpS (cpS (cpS (cpS (su σ q0 0 (σ q1 0)) (q1 + 1) 0 (q0 + 1) 0 60) (q1 + 2) 0 (q0 + 2) 0 60) (q1 + 3) 0 (q0 + 3) 0 60) (q1 + 4) 0 (q0 + 4) 0 60) q0 5 ((cpS (cpS (cpS (cpS (su σ q0 0 (σ q1 0)) (q1 + 1) 0 (q0 + 1) 0 60) (q1 + 2) 0 (q0 + 2) 0 60) (q1 + 3) 0 (q0 + 3) 0 60) (q1 + 4) 0 (q0 + 4) 0 60) q1 5)) q0 6 ((su (cpS (cpS (cpS (cpS (su σ q0 0 (σ q1 0)) (q1 + 1) 0 (q0 + 1) 0 60) (q1 + 2) 0 (q0 + 2) 0 60) (q1 + 3) 0 (q0 + 3) 0 60) (q1 + 4) 0 (q0 + 4) 0 60) q0 5 ((cpS (cpS (cpS (cpS (su σ q0 0 (σ q1 0)) (q1 + 1) 0 (q0 + 1) 0 60) (q1 + 2) 0 (q0 + 2) 0 60) (q1 + 3) 0 (q0 + 3) 0 60) (q1 + 4) 0 (q0 + 4) 0 60) q1 5)) q1 6)) (q1 + 5) 0 (q0 + 5) 0 6) (q1 + 6) 0 (q0 + 6) 0 6) (q1 + 7) 0 (q0 + 7) 0 8) q1 10)) q1 11)) q0 12 ((su (su (cpS (cpS (cpS (su (su (cpS (cpS (cpS (cpS (su σ q0 0 (σ q1 0)) (q1 + 1) 0 (q0 + 1) 0 60) (q1 + 2) 0 (q0 + 2) 0 60) (q1 + 3) 0 (q0 + 3) 0 60) (q1 + 4) 0 (q0 + 4) 0 60) q0 5 ((cpS (cpS (cpS (cpS (su σ q0 0 (σ q1 0)) (q1 + 1) 0 (q0 + 1) 0 60) (q1 + 2) 0 (q0 + 2) 0 60) (q1 + 3) 0 (q0 + 3) 0 60) (q1 + 4) 0 (q0 + 4) 0 60) q1 5)) q0 6 ((su (cpS (cpS (cpS (cpS (su σ q0 0 (σ q1 0)) (q1 + 1) 0 (q0 + 1) 0 60) (q1 + 2) 0 (q0 + 2) 0 60) (q1 + 3) 0 (q0 + 3) 0 60) (q1 + 4) 0 (q0 + 4) 0 60) q0 5 ((cpS (cpS (cpS (cpS (su σ q0 0 (σ q1 0)) (q1 + 1) 0 (q0 + 1) 0 60) (q1 + 2) 0 (q0 + 2) 0 60) (q1 + 3) 0 (q0 + 3) 0 60) (q1 + 4) 0 (q0 + 4) 0 60) q1 5)) q1 6)) (q1 + 5) 0 (q0 + 5) 0 6) (q1 + 6) 0 (q0 + 6) 0 6) (q1 + 7) 0 (q0 + 7) 0 8) q0 10 ((cpS (cpS (cpS (su (su (cpS (cpS (cpS (cpS (su σ q0 0 (σ q1 0)) (q1 + 1) 0 (q0 + 1) 0 60) (q1 + 2) 0 (q0 + 2) 0 60) (q1 + 3) 0 (q0 + 3) 0 60) (q1 + 4) 0 (q0 + 4) 0 60) q0 5 ((cpS (cpS (cpS (cpS (su σ q0 0 (σ q1 0)) (q1 + 1) 0 (q0 + 1) 0 60) (q1 + 2) 0 (q0 + 2) 0 60) (q1 + 3) 0 (q0 + 3) 0 60) (q1 + 4) 0 (q0 + 4) 0 60) q1 5)) q0 6 ((su (cpS (cpS (cpS (cpS (su σ q0 0 (σ q1 0)) (q1 + 1) 0 (q0 + 1) 0 60) (q1 + 2) 0 (q0 + 2) 0 60) (q1 + 3) 0 (q0 + 3) 0 60) (q1 + 4) 0 (q0 + 4) 0 60) q0 5 ((cpS (cpS (cpS (cpS (su σ q0 0 (σ q1 0)) (q1 + 1) 0 (q0 + 1) 0 60) (q1 + 2) 0 (q0 + 2) 0 60) (q1 + 3) 0 (q0 + 3) 0 60) (q1 + 4) 0 (q0 + 4) 0 60) q1 5)) q1 6)) (q1 + 5) 0 (q0 + 5) 0 6) (q1 + 6) 0 (q0 + 6) 0 6) (q1 + 7) 0 (q0 + 7) 0 8) q1 10)) q0 11 ((su (cpS (cpS (cpS (su (su (cpS (cpS (cpS (cpS (su σ q0 0 (σ q1 0)) (q1 + 1) 0 (q0 + 1) 0 60) (q1 + 2) 0 (q0 + 2) 0 60) (q1 + 3) 0 (q0 + 3) 0 60) (q1 + 4) 0 (q0 + 4) 0 60) q0 5 ((cpS (cpS (cpS (cpS (su σ q0 0 (σ q1 0)) (q1 + 1) 0 (q0 + 1) 0 60) (q1 + 2) 0 (q0 + 2) 0 60) (q1 + 3) 0 (q0 + 3) 0 60) (q1 + 4) 0 (q0 + 4) 0 60) q1 5)) q0 6 ((su (cpS (cpS (cpS (cpS (su σ q0 0 (σ q1 0)) (q1 + 1) 0 (q0 + 1) 0 60) (q1 + 2) 0 (q0 + 2) 0 60) (q1 + 3) 0 (q0 + 3) 0 60) (q1 + 4) 0 (q0 + 4) 0 60) q0 5 ((cpS (cpS (cpS (cpS (su σ q0 0 (σ q1 0)) (q1 + 1) 0 (q0 + 1) 0 60) (q1 + 2) 0 (q0 + 2) 0 60) (q1 + 3) 0 (q0 + 3) 0 60) (q1 + 4) 0 (q0 + 4) 0 60) q1 5)) q1 6)) (q1 + 5) 0 (q0 + 5) 0 6) (q1 + 6) 0 (q0 + 6) 0 6) (q1 + 7) 0 (q0 + 7) 0 8) q0 10 ((cpS (cpS (cpS (su (su (cpS (cpS (cpS (cpS (su σ q0 0 (σ q1 0)) (q1 + 1) 0 (q0 + 1) 0 60) (q1 + 2) 0 (q0 + 2) 0 60) (q1 + 3) 0 (q0 + 3) 0 60) (q1 + 4) 0 (q0 + 4) 0 60) q0 5 ((cpS (cpS (cpS (cpS (su σ q0 0 (σ q1 0)) (q1 + 1) 0 (q0 + 1) 0 60) (q1 + 2) 0 (q0 + 2) 0 60) (q1 + 3) 0 (q0 + 3) 0 60) (q1 + 4) 0 (q0 + 4) 0 60) q1 5)) q0 6 ((su (cpS (cpS (cpS (cpS (su σ q0 0 (σ q1 0)) (q1 + 1) 0 (q0 + 1) 0 60) (q1 + 2) 0 (q0 + 2) 0 60) (q1 + 3) 0 (q0 + 3) 0 60) (q1 + 4) 0 (q0 + 4) 0 60) q0 5 ((cpS (cpS (cpS (cpS (su σ q0 0 (σ q1 0)) (q1 + 1) 0 (q0 + 1) 0 60) (q1 + 2) 0 (q0 + 2) 0 60) (q1 + 3) 0 (q0 + 3) 0 60) (q1 + 4) 0 (q0 + 4) 0 60) q1 5)) q1 6)) (q1 + 5) 0 (q0 + 5) 0 6) (q1 + 6) 0 (q0 + 6) 0 6) (q1 + 7) 0 (q0 + 7) 0 8) q1 10)) q1 11)) q1 12)) q1 13)) q0 14 ((su (su (su (su (cpS (cpS (cpS (su (su (cpS (cpS (cpS (cpS (su σ q0 0 (σ q1 0)) (q1 + 1) 0 (q0 + 1) 0 60) (q1 + 2) 0 (q0 + 2) 0 60) (q1 + 3) 0 (q0 + 3) 0 60) (q1 + 4) 0 (q0 + 4) 0 60) q0 5 ((cpS (cpS (cpS (cpS (su σ q0 0 (σ q1 0)) (q1 + 1) 0 (q0 + 1) 0 60) (q1 + 2) 0 (q0 + 2) 0 60) (q1 + 3) 0 (q0 + 3) 0 60) (q1 + 4) 0 (q0 + 4) 0 60) q1 5)) q0 6 ((su (cpS (cpS (cpS (cpS (su σ q0 0 (σ q1 0)) (q1 + 1) 0 (q0 + 1) 0 60) (q1 + 2) 0 (q0 + 2) 0 60) (q1 + 3) 0 (q0 + 3) 0 60) (q1 + 4) 0 (q0 + 4) 0 60) q0 5 ((cpS (cpS (cpS (cpS (su σ q0 0 (σ q1 0)) (q1 + 1) 0 (q0 + 1) 0 60) (q1 + 2) 0 (q0 + 2) 0 60) (q1 + 3) 0 (q0 + 3) 0 60) (q1 + 4) 0 (q0 + 4) 0 60) q1 5)) q1 6)) (q1 + 5) 0 (q0 + 5) 0 6) (q1 + 6) 0 (q0 + 6) 0 6) (q1 + 7) 0 (q0 + 7) 0 8) q0 10 ((cpS (cpS (cpS (su (su (cpS (cpS (cpS (cpS (su σ q0 0 (σ q1 0)) (q1 + 1) 0 (q0 + 1) 0 60) (q1 + 2) 0 (q0 + 2) 0 60) (q1 + 3) 0 (q0 + 3) 0 60) (q1 + 4) 0 (q0 + 4) 0 60) q0 5 ((cpS (cpS (cpS (cpS (su σ q0 0 (σ q1 0)) (q1 + 1) 0 (q0 + 1) 0 60) (q1 + 2) 0 (q0 + 2) 0 60) (q1 + 3) 0 (q0 + 3) 0 60) (q1 + 4) 0 (q0 + 4) 0 60) q1 5)) q0 6 ((su (cpS (cpS (cpS (cpS (su σ q0 0 (σ q1 0)) (q1 + 1) 0 (q0 + 1) 0 60) (q1 + 2) 0 (q0 + 2) 0 60) (q1 + 3) 0 (q0 + 3) 0 60) (q1 + 4) 0 (q0 + 4) 0 60) q0 5 ((cpS (cpS (cpS (cpS (su σ q0 0 (σ q1 0)) (q1 + 1) 0 (q0 + 1) 0 60) (q1 + 2) 0 (q0 + 2) 0 60) (q1 + 3) 0 (q0 + 3) 0 60) (q1 + 4) 0 (q0 + 4) 0 60) q1 5)) q1 6)) (q1 + 5) 0 (q0 + 5) 0 6) (q1 + 6) 0 (q0 + 6) 0 6) (q1 + 7) 0 (q0 + 7) 0 8) q1 10)) q0 11 ((su (cpS (cpS (cpS (su (su (cpS (cpS (cpS (cpS (su σ q0 0 (σ q1 0)) (q1 + 1) 0 (q0 + 1) 0 60) (q1 + 2) 0 (q0 + 2) 0 60) (q1 + 3) 0 (q0 + 3) 0 60) (q1 + 4) 0 (q0 + 4) 0 60) q0 5 ((cpS (cpS (cpS (cpS (su σ q0 0 (σ q1 0)) (q1 + 1) 0 (q0 + 1) 0 60) (q1 + 2) 0 (q0 + 2) 0 60) (q1 + 3) 0 (q0 + 3) 0 60) (q1 + 4) 0 (q0 + 4) 0 60) q1 5)) q0 6 ((su (cpS (cpS (cpS (cpS (su σ q0 0 (σ q1 0)) (q1 + 1) 0 (q0 + 1) 0 60) (q1 + 2) 0 (q0 + 2) 0 60) (q1 + 3) 0 (q0 + 3) 0 60) (q1 + 4) 0 (q0 + 4) 0 60) q0 5 ((cpS (cpS (cpS (cpS (su σ q0 0 (σ q1 0)) (q1 + 1) 0 (q0 + 1) 0 60) (q1 + 2) 0 (q0 + 2) 0 60) (q1 + 3) 0 (q0 + 3) 0 60) (q1 + 4) 0 (q0 + 4) 0 60) q1 5)) q1 6)) (q1 + 5) 0 (q0 + 5) 0 6) (q1 + 6) 0 (q0 + 6) 0 6) (q1 + 7) 0 (q0 + 7) 0 8) q0 10 ((cpS (cpS (cpS (su (su (cpS (cpS (cpS (cpS (su σ q0 0 (σ q1 0)) (q1 + 1) 0 (q0 + 1) 0 60) (q1 + 2) 0 (q0 + 2) 0 60) (q1 + 3) 0 (q0 + 3) 0 60) (q1 + 4) 0 (q0 + 4) 0 60) q0 5 ((cpS (cpS (cpS (cpS (su σ q0 0 (σ q1 0)) (q1 + 1) 0 (q0 + 1) 0 60) (q1 + 2) 0 (q0 + 2) 0 60) (q1 + 3) 0 (q0 + 3) 0 60) (q1 + 4) 0 (q0 + 4) 0 60) q1 5)) q0 6 ((su (cpS (cpS (cpS (cpS (su σ q0 0 (σ q1 0)) (q1 + 1) 0 (q0 + 1) 0 60) (q1 + 2) 0 (q0 + 2) 0 60) (q1 + 3) 0 (q0 + 3) 0 60) (q1 + 4) 0 (q0 + 4) 0 60) q0 5 ((cpS (cpS (cpS (cpS (su σ q0 0 (σ q1 0)) (q1 + 1) 0 (q0 + 1) 0 60) (q1 + 2) 0 (q0 + 2) 0 60) (q1 + 3) 0 (q0 + 3) 0 60) (q1 + 4) 0 (q0 + 4) 0 60) q1 5)) q1 6)) (q1 + 5) 0 (q0 + 5) 0 6) (q1 + 6) 0 (q0 + 6) 0 6) (q1 + 7) 0 (q0 + 7) 0 8) q1 10)) q1 11)) q0 12 ((su (su (cpS (cpS (cpS (su (su (cpS (cpS (cpS (cpS (su σ q0 0 (σ q1 0)) (q1 + 1) 0 (q0 + 1) 0 60) (q1 + 2) 0 (q0 + 2) 0 60) (q1 + 3) 0 (q0 + 3) 0 60) (q1 + 4) 0 (q0 + 4) 0 60) q0 5 ((cpS (cpS (cpS (cpS (su σ q0 0 (σ q1 0)) (q1 + 1) 0 (q0 + 1) 0 60) (q1 + 2) 0 (q0 + 2) 0 60) (q1 + 3) 0 (q0 + 3) 0 60) (q1 + 4) 0 (q0 + 4) 0 60) q1 5)) q0 6 ((su (cpS (cpS (cpS (cpS (su σ q0 0 (σ q1 0)) (q1 + 1) 0 (q0 + 1) 0 60) (q1 + 2) 0 (q0 + 2) 0 60) (q1 + 3) 0 (q0 + 3) 0 60) (q1 + 4) 0 (q0 + 4) 0 60) q0 5 ((cpS (cpS (cpS (cpS (su σ q0 0 (σ q1 0)) (q1 + 1) 0 (q0 + 1) 0 60) (q1 + 2) 0 (q0 + 2) 0 60) (q1 + 3) 0 (q0 + 3) 0 60) (q1 + 4) 0 (q0 + 4) 0 60) q1 5)) q1 6)) (q1 + 5) 0 (q0 + 5) 0 6) (q1 + 6) 0 (q0 + 6) 0 6) (q1 + 7) 0 (q0 + 7) 0 8) q0 10 ((cpS (cpS (cpS (su (su (cpS (cpS (cpS (cpS (su σ q0 0 (σ q1 0)) (q1 + 1) 0 (q0 + 1) 0 60) (q1 + 2) 0 (q0 + 2) 0 60) (q1 + 3) 0 (q0 + 3) 0 60) (q1 + 4) 0 (q0 + 4) 0 60) q0 5 ((cpS (cpS (cpS (cpS (su σ q0 0 (σ q1 0)) (q1 + 1) 0 (q0 + 1) 0 60) (q1 + 2) 0 (q0 + 2) 0 60) (q1 + 3) 0 (q0 + 3) 0 60) (q1 + 4) 0 (q0 + 4) 0 60) q1 5)) q0 6 ((su (cpS (cpS (cpS (cpS (su σ q0 0 (σ q1 0)) (q1 + 1) 0 (q0 + 1) 0 60) (q1 + 2) 0 (q0 + 2) 0 60) (q1 + 3) 0 (q0 + 3) 0 60) (q1 + 4) 0 (q0 + 4) 0 60) q0 5 ((cpS (cpS (cpS (cpS (su σ q0 0 (σ q1 0)) (q1 + 1) 0 (q0 + 1) 0 60) (q1 + 2) 0 (q0 + 2) 0 60) (q1 + 3) 0 (q0 + 3) 0 60) (q1 + 4) 0 (q0 + 4) 0 60) q1 5)) q1 6)) (q1 + 5) 0 (q0 + 5) 0 6) (q1 + 6) 0 (q0 + 6) 0 6) (q1 + 7) 0 (q0 + 7) 0 8) q1 10)) q0 11 ((su (cpS (cpS (cpS (su (su (cpS (cpS (cpS (cpS (su σ q0 0 (σ q1 0)) (q1 + 1) 0 (q0 + 1) 0 60) (q1 + 2) 0 (q0 + 2) 0 60) (q1 + 3) 0 (q0 + 3) 0 60) (q1 + 4) 0 (q0 + 4) 0 60) q0 5 ((cpS (cpS (cpS (cpS (su σ q0 0 (σ q1 0)) (q1 + 1) 0 (q0 + 1) 0 60) (q1 + 2) 0 (q0 + 2) 0 60) (q1 + 3) 0 (q0 + 3) 0 60) (q1 + 4) 0 (q0 + 4) 0 60) q1 5)) q0 6 ((su (cpS (cpS (cpS (cpS (su σ q0 0 (σ q1 0)) (q1 + 1) 0 (q0 + 1) 0 60) (q1 + 2) 0 (q0 + 2) 0 60) (q1 + 3) 0 (q0 + 3) 0 60) (q1 + 4) 0 (q0 + 4) 0 60) q0 5 ((cpS (cpS (cpS (cpS (su σ q0 0 (σ q1 0)) (q1 + 1) 0 (q0 + 1) 0 60) (q1 + 2) 0 (q0 + 2) 0 60) (q1 + 3) 0 (q0 + 3) 0 60) (q1 + 4) 0 (q0 + 4) 0 60) q1 5)) q1 6)) (q1 + 5) 0 (q0 + 5) 0 6) (q1 + 6) 0 (q0 + 6) 0 6) (q1 + 7) 0 (q0 + 7) 0 8) q0 10 ((cpS (cpS (cpS (su (su (cpS (cpS (cpS (cpS (su σ q0 0 (σ q1 0)) (q1 + 1) 0 (q0 + 1) 0 60) (q1 + 2) 0 (q0 + 2) 0 60) (q1 + 3) 0 (q0 + 3) 0 60) (q1 + 4) 0 (q0 + 4) 0 60) q0 5 ((cpS (cpS (cpS (cpS (su σ q0 0 (σ q1 0)) (q1 + 1) 0 (q0 + 1) 0 60) (q1 + 2) 0 (q0 + 2) 0 60) (q1 + 3) 0 (q0 + 3) 0 60) (q1 + 4) 0 (q0 + 4) 0 60) q1 5)) q0 6 ((su (cpS (cpS (cpS (cpS (su σ q0 0 (σ q1 0)) (q1 + 1) 0 (q0 + 1) 0 60) (q1 + 2) 0 (q0 + 2) 0 60) (q1 + 3) 0 (q0 + 3) 0 60) (q1 + 4) 0 (q0 + 4) 0 60) q0 5 ((cpS (cpS (cpS (cpS (su σ q0 0 (σ q1 0)) (q1 + 1) 0 (q0 + 1) 0 60) (q1 + 2) 0 (q0 + 2) 0 60) (q1 + 3) 0 (q0 + 3) 0 60) (q1 + 4) 0 (q0 + 4) 0 60) q1 5)) q1 6)) (q1 + 5) 0 (q0 + 5) 0 6) (q1 + 6) 0 (q0 + 6) 0 6) (q1 + 7) 0 (q0 + 7) 0 8) q1 10)) q1 11)) q1 12)) q0 13 ((su (su (su (cpS (cpS (cpS (su (su (cpS (cpS (cpS (cpS (su σ q0 0 (σ q1 0)) (q1 + 1) 0 (q0 + 1) 0 60) (q1 + 2) 0 (q0 + 2) 0 60) (q1 + 3) 0 (q0 + 3) 0 60) (q1 + 4) 0 (q0 + 4) 0 60) q0 5 ((cpS (cpS (cpS (cpS (su σ q0 0 (σ q1 0)) (q1 + 1) 0 (q0 + 1) 0 60) (q1 + 2) 0 (q0 + 2) 0 60) (q1 + 3) 0 (q0 + 3) 0 60) (q1 + 4) 0 (q0 + 4) 0 60) q1 5)) q0 6 ((su (cpS (cpS (cpS (cpS (su σ q0 0 (σ q1 0)) (q1 + 1) 0 (q0 + 1) 0 60) (q1 + 2) 0 (q0 + 2) 0 60) (q1 + 3) 0 (q0 + 3) 0 60) (q1 + 4) 0 (q0 + 4) 0 60) q0 5 ((cpS (cpS (cpS (cpS (su σ q0 0 (σ q1 0)) (q1 + 1) 0 (q0 + 1) 0 60) (q1 + 2) 0 (q0 + 2) 0 60) (q1 + 3) 0 (q0 + 3) 0 60) (q1 + 4) 0 (q0 + 4) 0 60) q1 5)) q1 6)) (q1 + 5) 0 (q0 + 5) 0 6) (q1 + 6) 0 (q0 + 6) 0 6) (q1 + 7) 0 (q0 + 7) 0 8) q0 10 ((cpS (cpS (cpS (su (su (cpS (cpS (cpS (cpS (su σ q0 0 (σ q1 0)) (q1 + 1) 0 (q0 + 1) 0 60) (q1 + 2) 0 (q0 + 2) 0 60) (q1 + 3) 0 (q0 + 3) 0 60) (q1 + 4) 0 (q0 + 4) 0 60) q0 5 ((cpS (cpS (cpS (cpS (su σ q0 0 (σ q1 0)) (q1 + 1) 0 (q0 + 1) 0 60) (q1 + 2) 0 (q0 + 2) 0 60) (q1 + 3) 0 (q0 + 3) 0 60) (q1 + 4) 0 (q0 + 4) 0 60) q1 5)) q0 6 ((su (cpS (cpS (cpS (cpS (su σ q0 0 (σ q1 0)) (q1 + 1) 0 (q0 + 1) 0 60) (q1 + 2) 0 (q0 + 2) 0 60) (q1 + 3) 0 (q0 + 3) 0 60) (q1 + 4) 0 (q0 + 4) 0 60) q0 5 ((cpS (cpS (cpS (cpS (su σ q0 0 (σ q1 0)) (q1 + 1) 0 (q0 + 1) 0 60) (q1 + 2) 0 (q0 + 2) 0 60) (q1 + 3) 0 (q0 + 3) 0 60) (q1 + 4) 0 (q0 + 4) 0 60) q1 5)) q1 6)) (q1 + 5) 0 (q0 + 5) 0 6) (q1 + 6) 0 (q0 + 6) 0 6) (q1 + 7) 0 (q0 + 7) 0 8) q1 10)) q0 11 ((su (cpS (cpS (cpS (su (su (cpS (cpS (cpS (cpS (su σ q0 0 (σ q1 0)) (q1 + 1) 0 (q0 + 1) 0 60) (q1 + 2) 0 (q0 + 2) 0 60) (q1 + 3) 0 (q0 + 3) 0 60) (q1 + 4) 0 (q0 + 4) 0 60) q0 5 ((cpS (cpS (cpS (cpS (su σ q0 0 (σ q1 0)) (q1 + 1) 0 (q0 + 1) 0 60) (q1 + 2) 0 (q0 + 2) 0 60) (q1 + 3) 0 (q0 + 3) 0 60) (q1 + 4) 0 (q0 + 4) 0 60) q1 5)) q0 6 ((su (cpS (cpS (cpS (cpS (su σ q0 0 (σ q1 0)) (q1 + 1) 0 (q0 + 1) 0 60) (q1 + 2) 0 (q0 + 2) 0 60) (q1 + 3) 0 (q0 + 3) 0 60) (q1 + 4) 0 (q0 + 4) 0 60) q0 5 ((cpS (cpS (cpS (cpS (su σ q0 0 (σ q1 0)) (q1 + 1) 0 (q0 + 1) 0 60) (q1 + 2) 0 (q0 + 2) 0 60) (q1 + 3) 0 (q0 + 3) 0 60) (q1 + 4) 0 (q0 + 4) 0 60) q1 5)) q1 6)) (q1 + 5) 0 (q0 + 5) 0 6) (q1 + 6) 0 (q0 + 6) 0 6) (q1 + 7) 0 (q0 + 7) 0 8) q0 10 ((cpS (cpS (cpS (su (su (cpS (cpS (cpS (cpS (su σ q0 0 (σ q1 0)) (q1 + 1) 0 (q0 + 1) 0 60) (q1 + 2) 0 (q0 + 2) 0 60) (q1 + 3) 0 (q0 + 3) 0 60) (q1 + 4) 0 (q0 + 4) 0 60) q0 5 ((cpS (cpS (cpS (cpS (su σ q0 0 (σ q1 0)) (q1 + 1) 0 (q0 + 1) 0 60) (q1 + 2) 0 (q0 + 2) 0 60) (q1 + 3) 0 (q0 + 3) 0 60) (q1 + 4) 0 (q0 + 4) 0 60) q1 5)) q0 6 ((su (cpS (cpS (cpS (cpS (su σ q0 0 (σ q1 0)) (q1 + 1) 0 (q0 + 1) 0 60) (q1 + 2) 0 (q0 + 2) 0 60) (q1 + 3) 0 (q0 + 3) 0 60) (q1 + 4) 0 (q0 + 4) 0 60) q0 5 ((cpS (cpS (cpS (cpS (su σ q0 0 (σ q1 0)) (q1 + 1) 0 (q0 + 1) 0 60) (q1 + 2) 0 (q0 + 2) 0 60) (q1 + 3) 0 (q0 + 3) 0 60) (q1 + 4) 0 (q0 + 4) 0 60) q1 5)) q1 6)) (q1 + 5) 0 (q0 + 5) 0 6) (q1 + 6) 0 (q0 + 6) 0 6) (q1 + 7) 0 (q0 + 7) 0 8) q1 10)) q1 11)) q0 12 ((su (su (cpS (cpS (cpS (su (su (cpS (cpS (cpS (cpS (su σ q0 0 (σ q1 0)) (q1 + 1) 0 (q0 + 1) 0 60) (q1 + 2) 0 (q0 + 2) 0 60) (q1 + 3) 0 (q0 + 3) 0 60) (q1 + 4) 0 (q0 + 4) 0 60) q0 5 ((cpS (cpS (cpS (cpS (su σ q0 0 (σ q1 0)) (q1 + 1) 0 (q0 + 1) 0 60) (q1 + 2) 0 (q0 + 2) 0 60) (q1 + 3) 0 (q0 + 3) 0 60) (q1 + 4) 0 (q0 + 4) 0 60) q1 5)) q0 6 ((su (cpS (cpS (cpS (cpS (su σ q0 0 (σ q1 0)) (q1 + 1) 0 (q0 + 1) 0 60) (q1 + 2) 0 (q0 + 2) 0 60) (q1 + 3) 0 (q0 + 3) 0 60) (q1 + 4) 0 (q0 + 4) 0 60) q0 5 ((cpS (cpS (cpS (cpS (su σ q0 0 (σ q1 0)) (q1 + 1) 0 (q0 + 1) 0 60) (q1 + 2) 0 (q0 + 2) 0 60) (q1 + 3) 0 (q0 + 3) 0 60) (q1 + 4) 0 (q0 + 4) 0 60) q1 5)) q1 6)) (q1 + 5) 0 (q0 + 5) 0 6) (q1 + 6) 0 (q0 + 6) 0 6) (q1 + 7) 0 (q0 + 7) 0 8) q0 10 ((cpS (cpS (cpS (su (su (cpS (cpS (cpS (cpS (su σ q0 0 (σ q1 0)) (q1 + 1) 0 (q0 + 1) 0 60) (q1 + 2) 0 (q0 + 2) 0 60) (q1 + 3) 0 (q0 + 3) 0 60) (q1 + 4) 0 (q0 + 4) 0 60) q0 5 ((cpS (cpS (cpS (cpS (su σ q0 0 (σ q1 0)) (q1 + 1) 0 (q0 + 1) 0 60) (q1 + 2) 0 (q0 + 2) 0 60) (q1 + 3) 0 (q0 + 3) 0 60) (q1 + 4) 0 (q0 + 4) 0 60) q1 5)) q0 6 ((su (cpS (cpS (cpS (cpS (su σ q0 0 (σ q1 0)) (q1 + 1) 0 (q0 + 1) 0 60) (q1 + 2) 0 (q0 + 2) 0 60) (q1 + 3) 0 (q0 + 3) 0 60) (q1 + 4) 0 (q0 + 4) 0 60) q0 5 ((cpS (cpS (cpS (cpS (su σ q0 0 (σ q1 0)) (q1 + 1) 0 (q0 + 1) 0 60) (q1 + 2) 0 (q0 + 2) 0 60) (q1 + 3) 0 (q0 + 3) 0 60) (q1 + 4) 0 (q0 + 4) 0 60) q1 5)) q1 6)) (q1 + 5) 0 (q0 + 5) 0 6) (q1 + 6) 0 (q0 + 6) 0 6) (q1 + 7) 0 (q0 + 7) 0 8) q1 10)) q0 11 ((su (cpS (cpS (cpS (su (su (cpS (cpS (cpS (cpS (su σ q0 0 (σ q1 0)) (q1 + 1) 0 (q0 + 1) 0 60) (q1 + 2) 0 (q0 + 2) 0 60) (q1 + 3) 0 (q0 + 3) 0 60) (q1 + 4) 0 (q0 + 4) 0 60) q0 5 ((cpS (cpS (cpS (cpS (su σ q0 0 (σ q1 0)) (q1 + 1) 0 (q0 + 1) 0 60) (q1 + 2) 0 (q0 + 2) 0 60) (q1 + 3) 0 (q0 + 3) 0 60) (q1 + 4) 0 (q0 + 4) 0 60) q1 5)) q0 6 ((su (cpS (cpS (cpS (cpS (su σ q0 0 (σ q1 0)) (q1 + 1) 0 (q0 + 1) 0 60) (q1 + 2) 0 (q0 + 2) 0 60) (q1 + 3) 0 (q0 + 3) 0 60) (q1 + 4) 0 (q0 + 4) 0 60) q0 5 ((cpS (cpS (cpS (cpS (su σ q0 0 (σ q1 0)) (q1 + 1) 0 (q0 + 1) 0 60) (q1 + 2) 0 (q0 + 2) 0 60) (q1 + 3) 0 (q0 + 3) 0 60) (q1 + 4) 0 (q0 + 4) 0 60) q1 5)) q1 6)) (q1 + 5) 0 (q0 + 5) 0 6) (q1 + 6) 0 (q0 + 6) 0 6) (q1 + 7) 0 (q0 + 7) 0 8) q0 10 ((cpS (cpS (cpS (su (su (cpS (cpS (cpS (cpS (su σ q0 0 (σ q1 0)) (q1 + 1) 0 (q0 + 1) 0 60) (q1 + 2) 0 (q0 + 2) 0 60) (q1 + 3) 0 (q0 + 3) 0 60) (q1 + 4) 0 (q0 + 4) 0 60) q0 5 ((cpS (cpS (cpS (cpS (su σ q0 0 (σ q1 0)) (q1 + 1) 0 (q0 + 1) 0 60) (q1 + 2) 0 (q0 + 2) 0 60) (q1 + 3) 0 (q0 + 3) 0 60) (q1 + 4) 0 (q0 + 4) 0 60) q1 5)) q0 6 ((su (cpS (cpS (cpS (cpS (su σ q0 0 (σ q1 0)) (q1 + 1) 0 (q0 + 1) 0 60) (q1 + 2) 0 (q0 + 2) 0 60) (q1 + 3) 0 (q0 + 3) 0 60) (q1 + 4) 0 (q0 + 4) 0 60) q0 5 ((cpS (cpS (cpS (cpS (su σ q0 0 (σ q1 0)) (q1 + 1) 0 (q0 + 1) 0 60) (q1 + 2) 0 (q0 + 2) 0 60) (q1 + 3) 0 (q0 + 3) 0 60) (q1 + 4) 0 (q0 + 4) 0 60) q1 5)) q1 6)) (q1 + 5) 0 (q0 + 5) 0 6) (q1 + 6) 0 (q0 + 6) 0 6) (q1 + 7) 0 (q0 + 7) 0 8) q1 10)) q1 11)) q1 12)) q1 13)) q1 14)) q1 15)) q1 16))) : XX g true (d + 1) P_X7_copy 0 [(2, q0), (2, q1)] [] 136 σ 136 Q := by
  refine E_aload_n 1 dX7_copy_0 rfl (RowB hq0) rfl ?_
  refine E_aload_n 2 dX7_copy_1 rfl (RowB hq1) rfl ?_
  refine E_get 0 5 dX7_copy_2 fl_X7_33 (RowF0 hq1) rfl (by decide) rfl rfl ?_
  refine E_putI 0 8 dX7_copy_5 fl_X7_33 (RowF0 hq0) rfl (by decide) (Or.inl rfl) rfl rfl ?_
  refine E_aload_n 9 dX7_copy_8 rfl (RowB hq1) rfl ?_
  refine E_getL 12 dX7_copy_9 fl_X7_11 (RowF0 hq1) rfl (by decide) (RowL1 hq1) rfl ?_
  refine E_iconst 13 dX7_copy_12 (by decide) rfl ?_
  refine E_aload_n 14 dX7_copy_13 rfl (RowB hq0) rfl ?_
  refine E_getL 17 dX7_copy_14 fl_X7_11 (RowF0 hq0) rfl (by decide) (RowL1 hq0) rfl ?_
  refine E_iconst 18 dX7_copy_17 (by decide) rfl ?_
  refine E_bipush 20 dX7_copy_18 (by decide) rfl ?_
  obtain ⟨c1, w⟩ := w
  obtain ⟨c2, w⟩ := w
  refine E_copy 23 dX7_copy_20 mw_1021 mw_789 mw_788 mw_127 (RowF1 hq1) (RowF1 hq0) c1 c2 (Nat.le_of_ble_eq_true rfl) rfl ?_
  refine E_aload_n 24 dX7_copy_23 rfl (RowB hq1) rfl ?_
  refine E_getL 27 dX7_copy_24 fl_X7_15 (RowF0 hq1) rfl (by decide) (RowL2 hq1) rfl ?_
  refine E_iconst 28 dX7_copy_27 (by decide) rfl ?_
  refine E_aload_n 29 dX7_copy_28 rfl (RowB hq0) rfl ?_
  refine E_getL 32 dX7_copy_29 fl_X7_15 (RowF0 hq0) rfl (by decide) (RowL2 hq0) rfl ?_
  refine E_iconst 33 dX7_copy_32 (by decide) rfl ?_
  refine E_bipush 35 dX7_copy_33 (by decide) rfl ?_
  refine E_copy 38 dX7_copy_35 mw_1021 mw_789 mw_788 mw_127 (RowF2 hq1) (RowF2 hq0) c1 c2 (Nat.le_of_ble_eq_true rfl) rfl ?_
  refine E_aload_n 39 dX7_copy_38 rfl (RowB hq1) rfl ?_
  refine E_getL 42 dX7_copy_39 fl_X7_18 (RowF0 hq1) rfl (by decide) (RowL3 hq1) rfl ?_
  refine E_iconst 43 dX7_copy_42 (by decide) rfl ?_
  refine E_aload_n 44 dX7_copy_43 rfl (RowB hq0) rfl ?_
  refine E_getL 47 dX7_copy_44 fl_X7_18 (RowF0 hq0) rfl (by decide) (RowL3 hq0) rfl ?_
  refine E_iconst 48 dX7_copy_47 (by decide) rfl ?_
  refine E_bipush 50 dX7_copy_48 (by decide) rfl ?_
  refine E_copy 53 dX7_copy_50 mw_1021 mw_789 mw_788 mw_127 (RowF3 hq1) (RowF3 hq0) c1 c2 (Nat.le_of_ble_eq_true rfl) rfl ?_
  refine E_aload_n 54 dX7_copy_53 rfl (RowB hq1) rfl ?_
  refine E_getL 57 dX7_copy_54 fl_X7_21 (RowF0 hq1) rfl (by decide) (RowL4 hq1) rfl ?_
  refine E_iconst 58 dX7_copy_57 (by decide) rfl ?_
  refine E_aload_n 59 dX7_copy_58 rfl (RowB hq0) rfl ?_
  refine E_getL 62 dX7_copy_59 fl_X7_21 (RowF0 hq0) rfl (by decide) (RowL4 hq0) rfl ?_
  refine E_iconst 63 dX7_copy_62 (by decide) rfl ?_
  refine E_bipush 65 dX7_copy_63 (by decide) rfl ?_
  refine E_copy 68 dX7_copy_65 mw_1021 mw_789 mw_788 mw_127 (RowF4 hq1) (RowF4 hq0) c1 c2 (Nat.le_of_ble_eq_true rfl) rfl ?_
  refine E_aload_n 69 dX7_copy_68 rfl (RowB hq0) rfl ?_
  refine E_aload_n 70 dX7_copy_69 rfl (RowB hq1) rfl ?_
  refine E_get 5 73 dX7_copy_70 fl_X7_37 (RowF0 hq1) rfl (by decide) rfl rfl ?_
  refine E_putJ 5 76 dX7_copy_73 fl_X7_37 (RowF0 hq0) rfl (by decide) (Or.inl rfl) rfl rfl ?_
  refine E_aload_n 77 dX7_copy_76 rfl (RowB hq0) rfl ?_
  refine E_aload_n 78 dX7_copy_77 rfl (RowB hq1) rfl ?_
  refine E_get 6 81 dX7_copy_78 fl_X7_41 (RowF0 hq1) rfl (by decide) rfl rfl ?_
  refine E_putJ 6 84 dX7_copy_81 fl_X7_41 (RowF0 hq0) rfl (by decide) (Or.inl rfl) rfl rfl ?_
  refine E_aload_n 85 dX7_copy_84 rfl (RowB hq1) rfl ?_
  refine E_getL 88 dX7_copy_85 fl_X7_24 (RowF0 hq1) rfl (by decide) (RowL7 hq1) rfl ?_
  refine E_iconst 89 dX7_copy_88 (by decide) rfl ?_
  refine E_aload_n 90 dX7_copy_89 rfl (RowB hq0) rfl ?_
  refine E_getL 93 dX7_copy_90 fl_X7_24 (RowF0 hq0) rfl (by decide) (RowL7 hq0) rfl ?_
  refine E_iconst 94 dX7_copy_93 (by decide) rfl ?_
  refine E_bipush 96 dX7_copy_94 (by decide) rfl ?_
  obtain ⟨c3, w⟩ := w
  obtain ⟨c4, w⟩ := w
  refine E_copy 99 dX7_copy_96 mw_1021 mw_789 mw_788 mw_127 (RowF5 hq1) (RowF5 hq0) c3 c4 (Nat.le_of_ble_eq_true rfl) rfl ?_
  refine E_aload_n 100 dX7_copy_99 rfl (RowB hq1) rfl ?_
  refine E_getL 103 dX7_copy_100 fl_X7_27 (RowF0 hq1) rfl (by decide) (RowL8 hq1) rfl ?_
  refine E_iconst 104 dX7_copy_103 (by decide) rfl ?_
  refine E_aload_n 105 dX7_copy_104 rfl (RowB hq0) rfl ?_
  refine E_getL 108 dX7_copy_105 fl_X7_27 (RowF0 hq0) rfl (by decide) (RowL8 hq0) rfl ?_
  refine E_iconst 109 dX7_copy_108 (by decide) rfl ?_
  refine E_bipush 111 dX7_copy_109 (by decide) rfl ?_
  refine E_copy 114 dX7_copy_111 mw_1021 mw_789 mw_788 mw_127 (RowF6 hq1) (RowF6 hq0) c3 c4 (Nat.le_of_ble_eq_true rfl) rfl ?_
  refine E_aload_n 115 dX7_copy_114 rfl (RowB hq1) rfl ?_
  refine E_getL 118 dX7_copy_115 fl_X7_30 (RowF0 hq1) rfl (by decide) (RowL9 hq1) rfl ?_
  refine E_iconst 119 dX7_copy_118 (by decide) rfl ?_
  refine E_aload_n 120 dX7_copy_119 rfl (RowB hq0) rfl ?_
  refine E_getL 123 dX7_copy_120 fl_X7_30 (RowF0 hq0) rfl (by decide) (RowL9 hq0) rfl ?_
  refine E_iconst 124 dX7_copy_123 (by decide) rfl ?_
  refine E_aload_n 125 dX7_copy_124 rfl (RowB hq0) rfl ?_
  refine E_getL 128 dX7_copy_125 fl_X7_30 (RowF0 hq0) rfl (by decide) (RowL9 hq0) rfl ?_
  refine E_alen 8 129 dX7_copy_128 (RowF7 hq0) (by decide) (by decide) rfl rfl ?_
  obtain ⟨c5, w⟩ := w
  obtain ⟨c6, w⟩ := w
  refine E_copy 132 dX7_copy_129 mw_1021 mw_789 mw_788 mw_127 (RowF7 hq1) (RowF7 hq0) c5 c6 (Nat.le_of_ble_eq_true rfl) rfl ?_
  refine E_aload_n 133 dX7_copy_132 rfl (RowB hq0) rfl ?_
  refine E_aload_n 134 dX7_copy_133 rfl (RowB hq1) rfl ?_
  refine E_get 10 137 dX7_copy_134 fl_X7_62 (RowF0 hq1) rfl (by decide) rfl rfl ?_
  refine E_putI 10 140 dX7_copy_137 fl_X7_62 (RowF0 hq0) rfl (by decide) (Or.inl rfl) rfl rfl ?_
  refine E_aload_n 141 dX7_copy_140 rfl (RowB hq0) rfl ?_
  refine E_aload_n 142 dX7_copy_141 rfl (RowB hq1) rfl ?_
  refine E_get 11 145 dX7_copy_142 fl_X7_56 (RowF0 hq1) rfl (by decide) rfl rfl ?_
  refine E_putI 11 148 dX7_copy_145 fl_X7_56 (RowF0 hq0) rfl (by decide) (Or.inl rfl) rfl rfl ?_
  refine E_aload_n 149 dX7_copy_148 rfl (RowB hq0) rfl ?_
  refine E_aload_n 150 dX7_copy_149 rfl (RowB hq1) rfl ?_
  refine E_get 12 153 dX7_copy_150 fl_X7_72 (RowF0 hq1) rfl (by decide) rfl rfl ?_
  refine E_putI 12 156 dX7_copy_153 fl_X7_72 (RowF0 hq0) rfl (by decide) (Or.inl rfl) rfl rfl ?_
  refine E_aload_n 157 dX7_copy_156 rfl (RowB hq0) rfl ?_
  refine E_aload_n 158 dX7_copy_157 rfl (RowB hq1) rfl ?_
  refine E_get 13 161 dX7_copy_158 fl_X7_75 (RowF0 hq1) rfl (by decide) rfl rfl ?_
  refine E_putI 13 164 dX7_copy_161 fl_X7_75 (RowF0 hq0) rfl (by decide) (Or.inl rfl) rfl rfl ?_
  refine E_aload_n 165 dX7_copy_164 rfl (RowB hq0) rfl ?_
  refine E_aload_n 166 dX7_copy_165 rfl (RowB hq1) rfl ?_
  refine E_get 14 169 dX7_copy_166 fl_X7_78 (RowF0 hq1) rfl (by decide) rfl rfl ?_
  refine E_putI 14 172 dX7_copy_169 fl_X7_78 (RowF0 hq0) rfl (by decide) (Or.inl rfl) rfl rfl ?_
  refine E_aload_n 173 dX7_copy_172 rfl (RowB hq0) rfl ?_
  refine E_aload_n 174 dX7_copy_173 rfl (RowB hq1) rfl ?_
  refine E_get 15 177 dX7_copy_174 fl_X7_44 (RowF0 hq1) rfl (by decide) rfl rfl ?_
  refine E_putI 15 180 dX7_copy_177 fl_X7_44 (RowF0 hq0) rfl (by decide) (Or.inl rfl) rfl rfl ?_
  refine E_aload_n 181 dX7_copy_180 rfl (RowB hq0) rfl ?_
  refine E_aload_n 182 dX7_copy_181 rfl (RowB hq1) rfl ?_
  refine E_get 16 185 dX7_copy_182 fl_X7_47 (RowF0 hq1) rfl (by decide) rfl rfl ?_
  refine E_putI 16 188 dX7_copy_185 fl_X7_47 (RowF0 hq0) rfl (by decide) (Or.inl rfl) rfl rfl ?_
  exact E_vret dX7_copy_188 rfl rfl w
theorem B_X8_add_0 {g : PG} {d : Nat} {σ : PS} {Q : Int → PS → Prop} {x1 : Int}  (w : (XX g true d P_X8_add 3 [(2, 1), (0, x1), (0, 24)] [] 136 σ 136 Q)) : XX g true d P_X8_add 0 [(2, 1), (0, x1), (9, 0)] [] 136 σ 136 Q := by
  refine E_bipush 2 dX8_add_0 (by decide) rfl ?_
  refine E_istore_n (ls' := [(2, 1), (0, x1), (0, 24)]) 3 dX8_add_2 (by decide) rfl rfl ?_
  with_reducible exact w
theorem B_X8_add_3 {g : PG} {d : Nat} {σ : PS} {Q : Int → PS → Prop} {x1 x2 : Int}  (w : ((x2 < 0 → Q 0 σ) ∧ (0 ≤ x2 → ((500 ≤ σ 1 4 → Q 0 σ) ∧ (σ 1 4 < 500 → (0 ≤ σ 1 4 ∧ σ 1 4 < 500) ∧ (XX g true d P_X8_add 3 [(2, 1), (0, x1), (0, w32 (x2 + (-8)))] [] 136 (su (su σ 2 (σ 1 4) (ib8 (ib8 (iushr x1 x2)))) 1 4 (w32 ((σ 1 4) + 1))) 136 Q)))))) : XX g true d P_X8_add 3 [(2, 1), (0, x1), (0, x2)] [] 136 σ 136 Q := by
  refine E_iload_n 4 dX8_add_3 rfl rfl ?_
  refine E_if_lt 7 46 dX8_add_4 rfl rfl (fun h => ?_) (fun h => ?_)
  · have w := w.1 h
    exact E_vret dX8_add_46 rfl rfl w
  · have w := w.2 h
    refine E_aload_n 8 dX8_add_7 rfl (ac_1.bnd) rfl ?_
    refine E_get 4 11 dX8_add_8 fl_X8_23 ac_1 rfl (by decide) rfl rfl ?_
    refine E_sipush 14 dX8_add_11 (by decide) rfl ?_
    refine E_icmp_ge 17 46 dX8_add_14 rfl rfl (fun h => ?_) (fun h => ?_)
    · have w := w.1 h
      exact E_vret dX8_add_46 rfl rfl w
    · have w := w.2 h
      refine E_aload_n 18 dX8_add_17 rfl (ac_1.bnd) rfl ?_
      refine E_getL 21 dX8_add_18 fl_X8_9 ac_1 rfl (by decide) lay_1_0 rfl ?_
      refine E_aload_n 22 dX8_add_21 rfl (ac_1.bnd) rfl ?_
      refine E_get 4 25 dX8_add_22 fl_X8_23 ac_1 rfl (by decide) rfl rfl ?_
      refine E_iload_n 26 dX8_add_25 rfl rfl ?_
      refine E_iload_n 27 dX8_add_26 rfl rfl ?_
      refine E_iushr 28 dX8_add_27 rfl ?_
      refine E_i2b 29 dX8_add_28 rfl ?_
      obtain ⟨c1, w⟩ := w
      refine E_bast 30 dX8_add_29 ac_2 c1 rfl ?_
      refine E_aload_n 31 dX8_add_30 rfl (ac_1.bnd) rfl ?_
      refine E_dup 32 dX8_add_31 n21 rfl ?_
      refine E_get 4 35 dX8_add_32 fl_X8_23 ac_1 rfl (by decide) rfl rfl ?_
      refine E_conv (su_ne (Or.inl (by decide))) ?_
      refine E_iconst 36 dX8_add_35 (by decide) rfl ?_
      refine E_iadd 37 dX8_add_36 rfl ?_
      refine E_putI 4 40 dX8_add_37 fl_X8_23 ac_1 rfl (by decide) (Or.inl rfl) rfl rfl ?_
      refine E_iinc (ls' := [(2, 1), (0, x1), (0, w32 (x2 + (-8)))]) 43 dX8_add_40 (by decide) rfl rfl rfl ?_
      refine E_goto 3 dX8_add_43 rfl ?_
      with_reducible exact w
theorem B_X8_kind_0 {g : PG} {d : Nat} {σ : PS} {Q : Int → PS → Prop}  (w : (0 ≤ σ 1 5 ∧ σ 1 5 < 501) ∧ Q (σ 3 (σ 1 5)) σ) : XX g true d P_X8_kind 0 [(2, 1)] [] 136 σ 136 Q := by
  refine E_aload_n 1 dX8_kind_0 rfl (ac_1.bnd) rfl ?_
  refine E_getL 4 dX8_kind_1 fl_X8_13 ac_1 rfl (by decide) lay_1_1 rfl ?_
  refine E_aload_n 5 dX8_kind_4 rfl (ac_1.bnd) rfl ?_
  refine E_get 5 8 dX8_kind_5 fl_X8_27 ac_1 rfl (by decide) rfl rfl ?_
  obtain ⟨c1, w⟩ := w
  refine E_iald 9 dX8_kind_8 ac_3 c1 rfl ?_
  exact E_iret dX8_kind_9 rfl rfl w
theorem B_X8_number_0 {g : PG} {d : Nat} {σ : PS} {Q : Int → PS → Prop}  (w : (0 ≤ σ 1 5 ∧ σ 1 5 < 501) ∧ Q (σ 5 (σ 1 5)) σ) : XX g true d P_X8_number 0 [(2, 1)] [] 136 σ 136 Q := by
  refine E_aload_n 1 dX8_number_0 rfl (ac_1.bnd) rfl ?_
  refine E_getL 4 dX8_number_1 fl_X8_20 ac_1 rfl (by decide) lay_1_3 rfl ?_
  refine E_aload_n 5 dX8_number_4 rfl (ac_1.bnd) rfl ?_
  refine E_get 5 8 dX8_number_5 fl_X8_27 ac_1 rfl (by decide) rfl rfl ?_
  obtain ⟨c1, w⟩ := w
  refine E_iald 9 dX8_number_8 ac_5 c1 rfl ?_
  exact E_iret dX8_number_9 rfl rfl w
theorem B_X8_next_0 {g : PG} {d : Nat} {σ : PS} {Q : Int → PS → Prop}  (w : ((500 ≤ σ 1 5 → Q 0 σ) ∧ (σ 1 5 < 500 → (0 ≤ σ 1 5 ∧ σ 1 5 < 501) ∧ ((σ 3 (σ 1 5) = 0 → Q 0 σ) ∧ (σ 3 (σ 1 5) ≠ 0 → Q 0 (su σ 1 5 (w32 ((σ 1 5) + 1)))))))) : XX g true d P_X8_next 0 [(2, 1)] [] 136 σ 136 Q := by
  refine E_aload_n 1 dX8_next_0 rfl (ac_1.bnd) rfl ?_
  refine E_get 5 4 dX8_next_1 fl_X8_27 ac_1 rfl (by decide) rfl rfl ?_
  refine E_sipush 7 dX8_next_4 (by decide) rfl ?_
  refine E_icmp_ge 10 32 dX8_next_7 rfl rfl (fun h => ?_) (fun h => ?_)
  · have w := w.1 h
    exact E_vret dX8_next_32 rfl rfl w
  · have w := w.2 h
    refine E_aload_n 11 dX8_next_10 rfl (ac_1.bnd) rfl ?_
    refine E_getL 14 dX8_next_11 fl_X8_13 ac_1 rfl (by decide) lay_1_1 rfl ?_
    refine E_aload_n 15 dX8_next_14 rfl (ac_1.bnd) rfl ?_
    refine E_get 5 18 dX8_next_15 fl_X8_27 ac_1 rfl (by decide) rfl rfl ?_
    obtain ⟨c1, w⟩ := w
    refine E_iald 19 dX8_next_18 ac_3 c1 rfl ?_
    refine E_if_eq 22 32 dX8_next_19 rfl rfl (fun h => ?_) (fun h => ?_)
    · have w := w.1 h
      exact E_vret dX8_next_32 rfl rfl w
    · have w := w.2 h
      refine E_aload_n 23 dX8_next_22 rfl (ac_1.bnd) rfl ?_
      refine E_dup 24 dX8_next_23 n21 rfl ?_
      refine E_get 5 27 dX8_next_24 fl_X8_27 ac_1 rfl (by decide) rfl rfl ?_
      refine E_iconst 28 dX8_next_27 (by decide) rfl ?_
      refine E_iadd 29 dX8_next_28 rfl ?_
      refine E_putI 5 32 dX8_next_29 fl_X8_27 ac_1 rfl (by decide) (Or.inl rfl) rfl rfl ?_
      exact E_vret dX8_next_32 rfl rfl w
theorem B_X8_cutTokens_0 {g : PG} {d : Nat} {σ : PS} {Q : Int → PS → Prop}  (w : (XX g true (d + 1) P_X8_cutTokens 4 [(2, 1), (0, 0), (0, 0), (9, 0)] [] 136 σ 136 Q)) : XX g true (d + 1) P_X8_cutTokens 0 [(2, 1), (9, 0), (9, 0), (9, 0)] [] 136 σ 136 Q := by
  refine E_iconst 1 dX8_cutTokens_0 (by decide) rfl ?_
  refine E_istore_n (ls' := [(2, 1), (0, 0), (9, 0), (9, 0)]) 2 dX8_cutTokens_1 (by decide) rfl rfl ?_
  refine E_iconst 3 dX8_cutTokens_2 (by decide) rfl ?_
  refine E_istore_n (ls' := [(2, 1), (0, 0), (0, 0), (9, 0)]) 4 dX8_cutTokens_3 (by decide) rfl rfl ?_
  with_reducible exact w
theorem B_X8_cutTokens_4 {g : PG} {d : Nat} {σ : PS} {Q : Int → PS → Prop} {x1 x2 : Int}  (w : ((σ 1 4 ≤ x2 → (0 ≤ x1 ∧ x1 < 501) ∧ Q 0 (su (su (su (su σ 3 x1 0) 4 x1 (σ 1 4)) 5 x1 0) 1 5 0)) ∧ (x2 < σ 1 4 → ((500 ≤ x1 → (0 ≤ x1 ∧ x1 < 501) ∧ Q 0 (su (su (su (su σ 3 x1 0) 4 x1 (σ 1 4)) 5 x1 0) 1 5 0)) ∧ (x1 < 500 → ∀ y3, y3 = w32 (x2 + 1) → (0 ≤ x2 ∧ x2 < 500) ∧ XX g true d P_X8_isBlank 0 [(0, σ 2 x2)] [] 136 σ 136 (fun r6 σ5 => ((r6 ≠ 0 → (XX g true (d + 1) P_X8_cutTokens 4 [(2, 1), (0, x1), (0, y3), (9, 0)] [] 136 σ5 136 Q)) ∧ (r6 = 0 → XX g true d P_X8_tokenEnd 0 [(2, 1), (0, x2), (9, 0)] [] 136 σ5 136 (fun r8 σ7 => XX g true d P_X8_kindOf 0 [(2, 1), (0, x2), (0, r8), (9, 0)] [] 136 σ7 136 (fun r10 σ9 => (0 ≤ x1 ∧ x1 < 501) ∧ ((r10 ≠ 1 → (XX g true (d + 1) P_X8_cutTokens 4 [(2, 1), (0, w32 (x1 + 1)), (0, r8), (9, 0)] [] 136 (su (su (su σ9 3 x1 r10) 5 x1 0) 4 x1 x2) 136 Q)) ∧ (r10 = 1 → XX g true d P_X8_valueOf 0 [(2, 1), (0, x2), (0, r8), (9, 0), (9, 0)] [] 136 (su σ9 3 x1 r10) 136 (fun r13 σ12 => (XX g true (d + 1) P_X8_cutTokens 4 [(2, 1), (0, w32 (x1 + 1)), (0, r8), (9, 0)] [] 136 (su (su σ12 5 x1 r13) 4 x1 x2) 136 Q)))))))))))))) : XX g true (d + 1) P_X8_cutTokens 4 [(2, 1), (0, x1), (0, x2), (9, 0)] [] 136 σ 136 Q := by
  refine E_iload_n 5 dX8_cutTokens_4 rfl rfl ?_
  refine E_aload_n 6 dX8_cutTokens_5 rfl (ac_1.bnd) rfl ?_
  refine E_get 4 9 dX8_cutTokens_6 fl_X8_23 ac_1 rfl (by decide) rfl rfl ?_
  refine E_icmp_ge 12 94 dX8_cutTokens_9 rfl rfl (fun h => ?_) (fun h => ?_)
  · have w := w.1 h
    refine E_aload_n 95 dX8_cutTokens_94 rfl (ac_1.bnd) rfl ?_
    refine E_getL 98 dX8_cutTokens_95 fl_X8_13 ac_1 rfl (by decide) lay_1_1 rfl ?_
    refine E_iload_n 99 dX8_cutTokens_98 rfl rfl ?_
    refine E_iconst 100 dX8_cutTokens_99 (by decide) rfl ?_
    obtain ⟨c1, w⟩ := w
    refine E_iast 101 dX8_cutTokens_100 ac_3 c1 rfl ?_
    refine E_aload_n 102 dX8_cutTokens_101 rfl (ac_1.bnd) rfl ?_
    refine E_getL 105 dX8_cutTokens_102 fl_X8_17 ac_1 rfl (by decide) lay_1_2 rfl ?_
    refine E_iload_n 106 dX8_cutTokens_105 rfl rfl ?_
    refine E_aload_n 107 dX8_cutTokens_106 rfl (ac_1.bnd) rfl ?_
    refine E_get 4 110 dX8_cutTokens_107 fl_X8_23 ac_1 rfl (by decide) rfl rfl ?_
    refine E_conv (su_ne (Or.inl (by decide))) ?_
    refine E_iast 111 dX8_cutTokens_110 ac_4 c1 rfl ?_
    refine E_aload_n 112 dX8_cutTokens_111 rfl (ac_1.bnd) rfl ?_
    refine E_getL 115 dX8_cutTokens_112 fl_X8_20 ac_1 rfl (by decide) lay_1_3 rfl ?_
    refine E_iload_n 116 dX8_cutTokens_115 rfl rfl ?_
    refine E_iconst 117 dX8_cutTokens_116 (by decide) rfl ?_
    refine E_iast 118 dX8_cutTokens_117 ac_5 c1 rfl ?_
    refine E_aload_n 119 dX8_cutTokens_118 rfl (ac_1.bnd) rfl ?_
    refine E_iconst 120 dX8_cutTokens_119 (by decide) rfl ?_
    refine E_putI 5 123 dX8_cutTokens_120 fl_X8_27 ac_1 rfl (by decide) (Or.inl rfl) rfl rfl ?_
    exact E_vret dX8_cutTokens_123 rfl rfl w
  · have w := w.2 h
    refine E_iload_n 13 dX8_cutTokens_12 rfl rfl ?_
    refine E_sipush 16 dX8_cutTokens_13 (by decide) rfl ?_
    refine E_icmp_ge 19 94 dX8_cutTokens_16 rfl rfl (fun h => ?_) (fun h => ?_)
    · have w := w.1 h
      refine E_aload_n 95 dX8_cutTokens_94 rfl (ac_1.bnd) rfl ?_
      refine E_getL 98 dX8_cutTokens_95 fl_X8_13 ac_1 rfl (by decide) lay_1_1 rfl ?_
      refine E_iload_n 99 dX8_cutTokens_98 rfl rfl ?_
      refine E_iconst 100 dX8_cutTokens_99 (by decide) rfl ?_
      obtain ⟨c2, w⟩ := w
      refine E_iast 101 dX8_cutTokens_100 ac_3 c2 rfl ?_
      refine E_aload_n 102 dX8_cutTokens_101 rfl (ac_1.bnd) rfl ?_
      refine E_getL 105 dX8_cutTokens_102 fl_X8_17 ac_1 rfl (by decide) lay_1_2 rfl ?_
      refine E_iload_n 106 dX8_cutTokens_105 rfl rfl ?_
      refine E_aload_n 107 dX8_cutTokens_106 rfl (ac_1.bnd) rfl ?_
      refine E_get 4 110 dX8_cutTokens_107 fl_X8_23 ac_1 rfl (by decide) rfl rfl ?_
      refine E_conv (su_ne (Or.inl (by decide))) ?_
      refine E_iast 111 dX8_cutTokens_110 ac_4 c2 rfl ?_
      refine E_aload_n 112 dX8_cutTokens_111 rfl (ac_1.bnd) rfl ?_
      refine E_getL 115 dX8_cutTokens_112 fl_X8_20 ac_1 rfl (by decide) lay_1_3 rfl ?_
      refine E_iload_n 116 dX8_cutTokens_115 rfl rfl ?_
      refine E_iconst 117 dX8_cutTokens_116 (by decide) rfl ?_
      refine E_iast 118 dX8_cutTokens_117 ac_5 c2 rfl ?_
      refine E_aload_n 119 dX8_cutTokens_118 rfl (ac_1.bnd) rfl ?_
      refine E_iconst 120 dX8_cutTokens_119 (by decide) rfl ?_
      refine E_putI 5 123 dX8_cutTokens_120 fl_X8_27 ac_1 rfl (by decide) (Or.inl rfl) rfl rfl ?_
      exact E_vret dX8_cutTokens_123 rfl rfl w
    · have w := w.2 h
      refine E_iload_n 20 dX8_cutTokens_19 rfl rfl ?_
      refine E_iconst 21 dX8_cutTokens_20 (by decide) rfl ?_
      refine E_iadd 22 dX8_cutTokens_21 rfl ?_
      refine E_top (fun y3 hy3 => ?_)
      have w := w y3 hy3
      refine E_istore_n (ls' := [(2, 1), (0, x1), (0, x2), (0, y3)]) 23 dX8_cutTokens_22 (by decide) rfl rfl ?_
      refine E_aload_n 24 dX8_cutTokens_23 rfl (ac_1.bnd) rfl ?_
      refine E_getL 27 dX8_cutTokens_24 fl_X8_9 ac_1 rfl (by decide) lay_1_0 rfl ?_
      refine E_iload_n 28 dX8_cutTokens_27 rfl rfl ?_
      obtain ⟨c4, w⟩ := w
      refine E_bald 29 dX8_cutTokens_28 ac_2 c4 rfl ?_
      refine E_callS (as := [(0, σ 2 x2)]) 32 dX8_cutTokens_29 cf_X8_isBlank (Or.inl mw_588) mw_589 rfl rfl (Nat.le_of_ble_eq_true rfl) (Nat.le_of_ble_eq_true rfl) ⟨Nat.le_refl _, Nat.le_refl _⟩ rfl (w.mono (fun r6 σ5 w => ?_))
      show XX g true (d + 1) P_X8_cutTokens 32 [(2, 1), (0, x1), (0, x2), (0, y3)] [(0, r6)] 136 σ5 136 Q
      refine E_if_ne 35 89 dX8_cutTokens_32 rfl rfl (fun h => ?_) (fun h => ?_)
      · have w := w.1 h
        refine E_iload_n 90 dX8_cutTokens_89 rfl rfl ?_
        refine E_istore_n (ls' := [(2, 1), (0, x1), (0, y3), (0, y3)]) 91 dX8_cutTokens_90 (by decide) rfl rfl ?_
        refine E_goto 4 dX8_cutTokens_91 rfl ?_
        refine XX.fg [3] [(2, 1), (0, x1), (0, y3), (9, 0)] rfl ?_
        with_reducible exact w
      · have w := w.2 h
        refine E_aload_n 36 dX8_cutTokens_35 rfl (ac_1.bnd) rfl ?_
        refine E_iload_n 37 dX8_cutTokens_36 rfl rfl ?_
        refine E_callV (as := [(0, x2)]) 40 dX8_cutTokens_37 cf_X8_tokenEnd mw_591 mw_593 mw_1 ac_1 (by decide) cl_X8 rfl rfl (Nat.le_of_ble_eq_true rfl) (Nat.le_of_ble_eq_true rfl) ⟨Nat.le_refl _, Nat.le_refl _⟩ rfl (w.mono (fun r8 σ7 w => ?_))
        show XX g true (d + 1) P_X8_cutTokens 40 [(2, 1), (0, x1), (0, x2), (0, y3)] [(0, r8)] 136 σ7 136 Q
        refine E_istore_n (ls' := [(2, 1), (0, x1), (0, x2), (0, r8)]) 41 dX8_cutTokens_40 (by decide) rfl rfl ?_
        refine E_aload_n 42 dX8_cutTokens_41 rfl (ac_1.bnd) rfl ?_
        refine E_getL 45 dX8_cutTokens_42 fl_X8_13 ac_1 rfl (by decide) lay_1_1 rfl ?_
        refine E_iload_n 46 dX8_cutTokens_45 rfl rfl ?_
        refine E_aload_n 47 dX8_cutTokens_46 rfl (ac_1.bnd) rfl ?_
        refine E_iload_n 48 dX8_cutTokens_47 rfl rfl ?_
        refine E_iload_n 49 dX8_cutTokens_48 rfl rfl ?_
        refine E_callV (as := [(0, x2), (0, r8)]) 52 dX8_cutTokens_49 cf_X8_kindOf mw_601 mw_603 mw_2 ac_1 (by decide) cl_X8 rfl rfl (Nat.le_of_ble_eq_true rfl) (Nat.le_of_ble_eq_true rfl) ⟨Nat.le_refl _, Nat.le_refl _⟩ rfl (w.mono (fun r10 σ9 w => ?_))
        show XX g true (d + 1) P_X8_cutTokens 52 [(2, 1), (0, x1), (0, x2), (0, r8)] [(0, r10), (0, x1), (2, 3)] 136 σ9 136 Q
        obtain ⟨c11, w⟩ := w
        refine E_iast 53 dX8_cutTokens_52 ac_3 c11 rfl ?_
        refine E_aload_n 54 dX8_cutTokens_53 rfl (ac_1.bnd) rfl ?_
        refine E_getL 57 dX8_cutTokens_54 fl_X8_20 ac_1 rfl (by decide) lay_1_3 rfl ?_
        refine E_iload_n 58 dX8_cutTokens_57 rfl rfl ?_
        refine E_aload_n 59 dX8_cutTokens_58 rfl (ac_1.bnd) rfl ?_
        refine E_getL 62 dX8_cutTokens_59 fl_X8_13 ac_1 rfl (by decide) lay_1_1 rfl ?_
        refine E_iload_n 63 dX8_cutTokens_62 rfl rfl ?_
        refine E_iald 64 dX8_cutTokens_63 ac_3 c11 rfl ?_
        refine E_conv (su_eq) ?_
        refine E_iconst 65 dX8_cutTokens_64 (by decide) rfl ?_
        refine E_icmp_ne 68 77 dX8_cutTokens_65 rfl rfl (fun h => ?_) (fun h => ?_)
        · have w := w.1 h
          refine E_iconst 78 dX8_cutTokens_77 (by decide) rfl ?_
          refine E_iast 79 dX8_cutTokens_78 ac_5 c11 rfl ?_
          refine E_aload_n 80 dX8_cutTokens_79 rfl (ac_1.bnd) rfl ?_
          refine E_getL 83 dX8_cutTokens_80 fl_X8_17 ac_1 rfl (by decide) lay_1_2 rfl ?_
          refine E_iload_n 84 dX8_cutTokens_83 rfl rfl ?_
          refine E_iload_n 85 dX8_cutTokens_84 rfl rfl ?_
          refine E_iast 86 dX8_cutTokens_85 ac_4 c11 rfl ?_
          refine E_iinc (ls' := [(2, 1), (0, w32 (x1 + 1)), (0, x2), (0, r8)]) 89 dX8_cutTokens_86 (by decide) rfl rfl rfl ?_
          refine E_iload_n 90 dX8_cutTokens_89 rfl rfl ?_
          refine E_istore_n (ls' := [(2, 1), (0, w32 (x1 + 1)), (0, r8), (0, r8)]) 91 dX8_cutTokens_90 (by decide) rfl rfl ?_
          refine E_goto 4 dX8_cutTokens_91 rfl ?_
          refine XX.fg [3] [(2, 1), (0, w32 (x1 + 1)), (0, r8), (9, 0)] rfl ?_
          with_reducible exact w
        · have w := w.2 h
          refine E_aload_n 69 dX8_cutTokens_68 rfl (ac_1.bnd) rfl ?_
          refine E_iload_n 70 dX8_cutTokens_69 rfl rfl ?_
          refine E_iload_n 71 dX8_cutTokens_70 rfl rfl ?_
          refine E_callV (as := [(0, x2), (0, r8)]) 74 dX8_cutTokens_71 cf_X8_valueOf mw_661 mw_663 mw_4 ac_1 (by decide) cl_X8 rfl rfl (Nat.le_of_ble_eq_true rfl) (Nat.le_of_ble_eq_true rfl) ⟨Nat.le_refl _, Nat.le_refl _⟩ rfl (w.mono (fun r13 σ12 w => ?_))
          show XX g true (d + 1) P_X8_cutTokens 74 [(2, 1), (0, x1), (0, x2), (0, r8)] [(0, r13), (0, x1), (2, 5)] 136 σ12 136 Q
          refine E_goto 78 dX8_cutTokens_74 rfl ?_
          refine E_iast 79 dX8_cutTokens_78 ac_5 c11 rfl ?_
          refine E_aload_n 80 dX8_cutTokens_79 rfl (ac_1.bnd) rfl ?_
          refine E_getL 83 dX8_cutTokens_80 fl_X8_17 ac_1 rfl (by decide) lay_1_2 rfl ?_
          refine E_iload_n 84 dX8_cutTokens_83 rfl rfl ?_
          refine E_iload_n 85 dX8_cutTokens_84 rfl rfl ?_
          refine E_iast 86 dX8_cutTokens_85 ac_4 c11 rfl ?_
          refine E_iinc (ls' := [(2, 1), (0, w32 (x1 + 1)), (0, x2), (0, r8)]) 89 dX8_cutTokens_86 (by decide) rfl rfl rfl ?_
          refine E_iload_n 90 dX8_cutTokens_89 rfl rfl ?_
          refine E_istore_n (ls' := [(2, 1), (0, w32 (x1 + 1)), (0, r8), (0, r8)]) 91 dX8_cutTokens_90 (by decide) rfl rfl ?_
          refine E_goto 4 dX8_cutTokens_91 rfl ?_
          refine XX.fg [3] [(2, 1), (0, w32 (x1 + 1)), (0, r8), (9, 0)] rfl ?_
          with_reducible exact w
theorem B_X8_tokenEnd_0 {g : PG} {d : Nat} {σ : PS} {Q : Int → PS → Prop} {x1 : Int}  (w : ∀ y1, y1 = w32 (x1 + 1) → (0 ≤ x1 ∧ x1 < 500) ∧ XX g true d P_X8_isLetter 0 [(0, σ 2 x1)] [] 136 σ 136 (fun r4 σ3 => ((r4 = 0 → XX g true d P_X8_isDigit 0 [(0, σ3 2 x1)] [] 136 σ3 136 (fun r6 σ5 => ((r6 = 0 → Q y1 σ5) ∧ (r6 ≠ 0 → (XX g true (d + 1) P_X8_tokenEnd 54 [(2, 1), (9, 0), (0, y1)] [] 136 σ5 136 Q))))) ∧ (r4 ≠ 0 → (XX g true (d + 1) P_X8_tokenEnd 16 [(2, 1), (9, 0), (0, y1)] [] 136 σ3 136 Q))))) : XX g true (d + 1) P_X8_tokenEnd 0 [(2, 1), (0, x1), (9, 0)] [] 136 σ 136 Q := by
  refine E_iload_n 1 dX8_tokenEnd_0 rfl rfl ?_
  refine E_iconst 2 dX8_tokenEnd_1 (by decide) rfl ?_
  refine E_iadd 3 dX8_tokenEnd_2 rfl ?_
  refine E_top (fun y1 hy1 => ?_)
  have w := w y1 hy1
  refine E_istore_n (ls' := [(2, 1), (0, x1), (0, y1)]) 4 dX8_tokenEnd_3 (by decide) rfl rfl ?_
  refine E_aload_n 5 dX8_tokenEnd_4 rfl (ac_1.bnd) rfl ?_
  refine E_getL 8 dX8_tokenEnd_5 fl_X8_9 ac_1 rfl (by decide) lay_1_0 rfl ?_
  refine E_iload_n 9 dX8_tokenEnd_8 rfl rfl ?_
  obtain ⟨c2, w⟩ := w
  refine E_bald 10 dX8_tokenEnd_9 ac_2 c2 rfl ?_
  refine E_callS (as := [(0, σ 2 x1)]) 13 dX8_tokenEnd_10 cf_X8_isLetter (Or.inl mw_595) mw_596 rfl rfl (Nat.le_of_ble_eq_true rfl) (Nat.le_of_ble_eq_true rfl) ⟨Nat.le_refl _, Nat.le_refl _⟩ rfl (w.mono (fun r4 σ3 w => ?_))
  show XX g true (d + 1) P_X8_tokenEnd 13 [(2, 1), (0, x1), (0, y1)] [(0, r4)] 136 σ3 136 Q
  refine E_if_eq 16 42 dX8_tokenEnd_13 rfl rfl (fun h => ?_) (fun h => ?_)
  · have w := w.1 h
    refine E_aload_n 43 dX8_tokenEnd_42 rfl (ac_1.bnd) rfl ?_
    refine E_getL 46 dX8_tokenEnd_43 fl_X8_9 ac_1 rfl (by decide) lay_1_0 rfl ?_
    refine E_iload_n 47 dX8_tokenEnd_46 rfl rfl ?_
    refine E_bald 48 dX8_tokenEnd_47 ac_2 c2 rfl ?_
    refine E_callS (as := [(0, σ3 2 x1)]) 51 dX8_tokenEnd_48 cf_X8_isDigit (Or.inl mw_598) mw_599 rfl rfl (Nat.le_of_ble_eq_true rfl) (Nat.le_of_ble_eq_true rfl) ⟨Nat.le_refl _, Nat.le_refl _⟩ rfl (w.mono (fun r6 σ5 w => ?_))
    show XX g true (d + 1) P_X8_tokenEnd 51 [(2, 1), (0, x1), (0, y1)] [(0, r6)] 136 σ5 136 Q
    refine E_if_eq 54 80 dX8_tokenEnd_51 rfl rfl (fun h => ?_) (fun h => ?_)
    · have w := w.1 h
      refine E_iload_n 81 dX8_tokenEnd_80 rfl rfl ?_
      exact E_iret dX8_tokenEnd_81 rfl rfl w
    · have w := w.2 h
      refine XX.fg [1] [(2, 1), (9, 0), (0, y1)] rfl ?_
      with_reducible exact w
  · have w := w.2 h
    refine XX.fg [1] [(2, 1), (9, 0), (0, y1)] rfl ?_
    with_reducible exact w
theorem B_X8_tokenEnd_54 {g : PG} {d : Nat} {σ : PS} {Q : Int → PS → Prop} {x2 : Int}  (w : ((σ 1 4 ≤ x2 → Q x2 σ) ∧ (x2 < σ 1 4 → (0 ≤ x2 ∧ x2 < 500) ∧ XX g true d P_X8_isDigit 0 [(0, σ 2 x2)] [] 136 σ 136 (fun r3 σ2 => ((r3 = 0 → Q x2 σ2) ∧ (r3 ≠ 0 → (XX g true (d + 1) P_X8_tokenEnd 54 [(2, 1), (9, 0), (0, w32 (x2 + 1))] [] 136 σ2 136 Q))))))) : XX g true (d + 1) P_X8_tokenEnd 54 [(2, 1), (9, 0), (0, x2)] [] 136 σ 136 Q := by
  refine E_iload_n 55 dX8_tokenEnd_54 rfl rfl ?_
  refine E_aload_n 56 dX8_tokenEnd_55 rfl (ac_1.bnd) rfl ?_
  refine E_get 4 59 dX8_tokenEnd_56 fl_X8_23 ac_1 rfl (by decide) rfl rfl ?_
  refine E_icmp_ge 62 80 dX8_tokenEnd_59 rfl rfl (fun h => ?_) (fun h => ?_)
  · have w := w.1 h
    refine E_iload_n 81 dX8_tokenEnd_80 rfl rfl ?_
    exact E_iret dX8_tokenEnd_81 rfl rfl w
  · have w := w.2 h
    refine E_aload_n 63 dX8_tokenEnd_62 rfl (ac_1.bnd) rfl ?_
    refine E_getL 66 dX8_tokenEnd_63 fl_X8_9 ac_1 rfl (by decide) lay_1_0 rfl ?_
    refine E_iload_n 67 dX8_tokenEnd_66 rfl rfl ?_
    obtain ⟨c1, w⟩ := w
    refine E_bald 68 dX8_tokenEnd_67 ac_2 c1 rfl ?_
    refine E_callS (as := [(0, σ 2 x2)]) 71 dX8_tokenEnd_68 cf_X8_isDigit (Or.inl mw_598) mw_599 rfl rfl (Nat.le_of_ble_eq_true rfl) (Nat.le_of_ble_eq_true rfl) ⟨Nat.le_refl _, Nat.le_refl _⟩ rfl (w.mono (fun r3 σ2 w => ?_))
    show XX g true (d + 1) P_X8_tokenEnd 71 [(2, 1), (9, 0), (0, x2)] [(0, r3)] 136 σ2 136 Q
    refine E_if_eq 74 80 dX8_tokenEnd_71 rfl rfl (fun h => ?_) (fun h => ?_)
    · have w := w.1 h
      refine E_iload_n 81 dX8_tokenEnd_80 rfl rfl ?_
      exact E_iret dX8_tokenEnd_81 rfl rfl w
    · have w := w.2 h
      refine E_iinc (ls' := [(2, 1), (9, 0), (0, w32 (x2 + 1))]) 77 dX8_tokenEnd_74 (by decide) rfl rfl rfl ?_
      refine E_goto 54 dX8_tokenEnd_77 rfl ?_
      with_reducible exact w
theorem B_X8_tokenEnd_16 {g : PG} {d : Nat} {σ : PS} {Q : Int → PS → Prop} {x2 : Int}  (w : ((σ 1 4 ≤ x2 → Q x2 σ) ∧ (x2 < σ 1 4 → (0 ≤ x2 ∧ x2 < 500) ∧ XX g true d P_X8_isLetter 0 [(0, σ 2 x2)] [] 136 σ 136 (fun r3 σ2 => ((r3 = 0 → Q x2 σ2) ∧ (r3 ≠ 0 → (XX g true (d + 1) P_X8_tokenEnd 16 [(2, 1), (9, 0), (0, w32 (x2 + 1))] [] 136 σ2 136 Q))))))) : XX g true (d + 1) P_X8_tokenEnd 16 [(2, 1), (9, 0), (0, x2)] [] 136 σ 136 Q := by
  refine E_iload_n 17 dX8_tokenEnd_16 rfl rfl ?_
  refine E_aload_n 18 dX8_tokenEnd_17 rfl (ac_1.bnd) rfl ?_
  refine E_get 4 21 dX8_tokenEnd_18 fl_X8_23 ac_1 rfl (by decide) rfl rfl ?_
  refine E_icmp_ge 24 80 dX8_tokenEnd_21 rfl rfl (fun h => ?_) (fun h => ?_)
  · have w := w.1 h
    refine E_iload_n 81 dX8_tokenEnd_80 rfl rfl ?_
    exact E_iret dX8_tokenEnd_81 rfl rfl w
  · have w := w.2 h
    refine E_aload_n 25 dX8_tokenEnd_24 rfl (ac_1.bnd) rfl ?_
    refine E_getL 28 dX8_tokenEnd_25 fl_X8_9 ac_1 rfl (by decide) lay_1_0 rfl ?_
    refine E_iload_n 29 dX8_tokenEnd_28 rfl rfl ?_
    obtain ⟨c1, w⟩ := w
    refine E_bald 30 dX8_tokenEnd_29 ac_2 c1 rfl ?_
    refine E_callS (as := [(0, σ 2 x2)]) 33 dX8_tokenEnd_30 cf_X8_isLetter (Or.inl mw_595) mw_596 rfl rfl (Nat.le_of_ble_eq_true rfl) (Nat.le_of_ble_eq_true rfl) ⟨Nat.le_refl _, Nat.le_refl _⟩ rfl (w.mono (fun r3 σ2 w => ?_))
    show XX g true (d + 1) P_X8_tokenEnd 33 [(2, 1), (9, 0), (0, x2)] [(0, r3)] 136 σ2 136 Q
    refine E_if_eq 36 80 dX8_tokenEnd_33 rfl rfl (fun h => ?_) (fun h => ?_)
    · have w := w.1 h
      refine E_iload_n 81 dX8_tokenEnd_80 rfl rfl ?_
      exact E_iret dX8_tokenEnd_81 rfl rfl w
    · have w := w.2 h
      refine E_iinc (ls' := [(2, 1), (9, 0), (0, w32 (x2 + 1))]) 39 dX8_tokenEnd_36 (by decide) rfl rfl rfl ?_
      refine E_goto 16 dX8_tokenEnd_39 rfl ?_
      with_reducible exact w
theorem B_X8_kindOf_0 {g : PG} {d : Nat} {σ : PS} {Q : Int → PS → Prop} {x1 x2 : Int}  (w : (0 ≤ x1 ∧ x1 < 500) ∧ ∀ y2, y2 = σ 2 x1 → XX g true d P_X8_isLetter 0 [(0, y2)] [] 136 σ 136 (fun r4 σ3 => ((r4 = 0 → XX g true d P_X8_isDigit 0 [(0, y2)] [] 136 σ3 136 (fun r6 σ5 => ((r6 = 0 → XX g true d P_X8_isSymbol 0 [(0, y2)] [] 136 σ5 136 (fun r8 σ7 => ((r8 = 0 → Q 2 σ7) ∧ (r8 ≠ 0 → Q y2 σ7)))) ∧ (r6 ≠ 0 → ((4 < w32 (x2 - x1) → Q 2 σ5) ∧ (w32 (x2 - x1) ≤ 4 → Q 1 σ5)))))) ∧ (r4 ≠ 0 → XX g true d P_X8_wordKind 0 [(2, 1), (0, x1), (0, x2), (9, 0), (9, 0), (9, 0), (9, 0), (9, 0)] [] 136 σ3 136 (fun r10 σ9 => Q r10 σ9))))) : XX g true (d + 1) P_X8_kindOf 0 [(2, 1), (0, x1), (0, x2), (9, 0)] [] 136 σ 136 Q := by
  refine E_aload_n 1 dX8_kindOf_0 rfl (ac_1.bnd) rfl ?_
  refine E_getL 4 dX8_kindOf_1 fl_X8_9 ac_1 rfl (by decide) lay_1_0 rfl ?_
  refine E_iload_n 5 dX8_kindOf_4 rfl rfl ?_
  obtain ⟨c1, w⟩ := w
  refine E_bald 6 dX8_kindOf_5 ac_2 c1 rfl ?_
  refine E_top (fun y2 hy2 => ?_)
  have w := w y2 hy2
  refine E_istore_n (ls' := [(2, 1), (0, x1), (0, x2), (0, y2)]) 7 dX8_kindOf_6 (by decide) rfl rfl ?_
  refine E_iload_n 8 dX8_kindOf_7 rfl rfl ?_
  refine E_callS (as := [(0, y2)]) 11 dX8_kindOf_8 cf_X8_isLetter (Or.inl mw_595) mw_596 rfl rfl (Nat.le_of_ble_eq_true rfl) (Nat.le_of_ble_eq_true rfl) ⟨Nat.le_refl _, Nat.le_refl _⟩ rfl (w.mono (fun r4 σ3 w => ?_))
  show XX g true (d + 1) P_X8_kindOf 11 [(2, 1), (0, x1), (0, x2), (0, y2)] [(0, r4)] 136 σ3 136 Q
  refine E_if_eq 14 21 dX8_kindOf_11 rfl rfl (fun h => ?_) (fun h => ?_)
  · have w := w.1 h
    refine E_iload_n 22 dX8_kindOf_21 rfl rfl ?_
    refine E_callS (as := [(0, y2)]) 25 dX8_kindOf_22 cf_X8_isDigit (Or.inl mw_598) mw_599 rfl rfl (Nat.le_of_ble_eq_true rfl) (Nat.le_of_ble_eq_true rfl) ⟨Nat.le_refl _, Nat.le_refl _⟩ rfl (w.mono (fun r6 σ5 w => ?_))
    show XX g true (d + 1) P_X8_kindOf 25 [(2, 1), (0, x1), (0, x2), (0, y2)] [(0, r6)] 136 σ5 136 Q
    refine E_if_eq 28 41 dX8_kindOf_25 rfl rfl (fun h => ?_) (fun h => ?_)
    · have w := w.1 h
      refine E_iload_n 42 dX8_kindOf_41 rfl rfl ?_
      refine E_callS (as := [(0, y2)]) 45 dX8_kindOf_42 cf_X8_isSymbol (Or.inl mw_658) mw_659 rfl rfl (Nat.le_of_ble_eq_true rfl) (Nat.le_of_ble_eq_true rfl) ⟨Nat.le_refl _, Nat.le_refl _⟩ rfl (w.mono (fun r8 σ7 w => ?_))
      show XX g true (d + 1) P_X8_kindOf 45 [(2, 1), (0, x1), (0, x2), (0, y2)] [(0, r8)] 136 σ7 136 Q
      refine E_if_eq 48 52 dX8_kindOf_45 rfl rfl (fun h => ?_) (fun h => ?_)
      · have w := w.1 h
        refine E_iconst 53 dX8_kindOf_52 (by decide) rfl ?_
        exact E_iret dX8_kindOf_53 rfl rfl w
      · have w := w.2 h
        refine E_iload_n 49 dX8_kindOf_48 rfl rfl ?_
        refine E_goto 53 dX8_kindOf_49 rfl ?_
        exact E_iret dX8_kindOf_53 rfl rfl w
    · have w := w.2 h
      refine E_iload_n 29 dX8_kindOf_28 rfl rfl ?_
      refine E_iload_n 30 dX8_kindOf_29 rfl rfl ?_
      refine E_isub 31 dX8_kindOf_30 rfl ?_
      refine E_iconst 32 dX8_kindOf_31 (by decide) rfl ?_
      refine E_icmp_gt 35 39 dX8_kindOf_32 rfl rfl (fun h => ?_) (fun h => ?_)
      · have w := w.1 h
        refine E_iconst 40 dX8_kindOf_39 (by decide) rfl ?_
        exact E_iret dX8_kindOf_40 rfl rfl w
      · have w := w.2 h
        refine E_iconst 36 dX8_kindOf_35 (by decide) rfl ?_
        refine E_goto 40 dX8_kindOf_36 rfl ?_
        exact E_iret dX8_kindOf_40 rfl rfl w
  · have w := w.2 h
    refine E_aload_n 15 dX8_kindOf_14 rfl (ac_1.bnd) rfl ?_
    refine E_iload_n 16 dX8_kindOf_15 rfl rfl ?_
    refine E_iload_n 17 dX8_kindOf_16 rfl rfl ?_
    refine E_callV (as := [(0, x1), (0, x2)]) 20 dX8_kindOf_17 cf_X8_wordKind mw_605 mw_607 mw_3 ac_1 (by decide) cl_X8 rfl rfl (Nat.le_of_ble_eq_true rfl) (Nat.le_of_ble_eq_true rfl) ⟨Nat.le_refl _, Nat.le_refl _⟩ rfl (w.mono (fun r10 σ9 w => ?_))
    show XX g true (d + 1) P_X8_kindOf 20 [(2, 1), (0, x1), (0, x2), (0, y2)] [(0, r10)] 136 σ9 136 Q
    exact E_iret dX8_kindOf_20 rfl rfl w
theorem B_X8_wordKind_0 {g : PG} {d : Nat} {σ : PS} {Q : Int → PS → Prop} {x1 x2 : Int}  (w : (XX g true (d + 1) P_X8_wordKind 13 [(2, 1), (0, x1), (0, x2), (0, 256), (0, x1), (0, 1), (0, 0), (9, 0)] [] 136 σ 136 Q)) : XX g true (d + 1) P_X8_wordKind 0 [(2, 1), (0, x1), (0, x2), (9, 0), (9, 0), (9, 0), (9, 0), (9, 0)] [] 136 σ 136 Q := by
  refine E_sipush 3 dX8_wordKind_0 (by decide) rfl ?_
  refine E_istore_n (ls' := [(2, 1), (0, x1), (0, x2), (0, 256), (9, 0), (9, 0), (9, 0), (9, 0)]) 4 dX8_wordKind_3 (by decide) rfl rfl ?_
  refine E_iload_n 5 dX8_wordKind_4 rfl rfl ?_
  refine E_istore (ls' := [(2, 1), (0, x1), (0, x2), (0, 256), (0, x1), (9, 0), (9, 0), (9, 0)]) 7 dX8_wordKind_5 (by decide) rfl rfl ?_
  refine E_iconst 8 dX8_wordKind_7 (by decide) rfl ?_
  refine E_istore (ls' := [(2, 1), (0, x1), (0, x2), (0, 256), (0, x1), (0, 1), (9, 0), (9, 0)]) 10 dX8_wordKind_8 (by decide) rfl rfl ?_
  refine E_iconst 11 dX8_wordKind_10 (by decide) rfl ?_
  refine E_istore (ls' := [(2, 1), (0, x1), (0, x2), (0, 256), (0, x1), (0, 1), (0, 0), (9, 0)]) 13 dX8_wordKind_11 (by decide) rfl rfl ?_
  with_reducible exact w
theorem B_X8_wordKind_13 {g : PG} {d : Nat} {σ : PS} {Q : Int → PS → Prop} {x1 x2 x3 x4 x5 x6 : Int}  (w : XX g true d P_J0_length_8abf5 0 [(2, 100003)] [] 136 σ 136 (fun r2 σ1 => ((r2 ≤ x6 → Q 2 σ1) ∧ (x6 < r2 → XX g true d P_J0_charAt_5068e 0 [(2, 100003), (0, x6)] [] 136 σ1 136 (fun r4 σ3 => ((r4 = 32 → ((x5 = 0 → (XX g true (d + 1) P_X8_wordKind 13 [(2, 1), (0, x1), (0, x2), (0, w32 (x3 + 1)), (0, x1), (0, 1), (0, w32 (x6 + 1)), (9, 0)] [] 136 σ3 136 Q)) ∧ (x5 ≠ 0 → ((x4 ≠ x2 → (XX g true (d + 1) P_X8_wordKind 13 [(2, 1), (0, x1), (0, x2), (0, w32 (x3 + 1)), (0, x1), (0, 1), (0, w32 (x6 + 1)), (9, 0)] [] 136 σ3 136 Q)) ∧ (x4 = x2 → Q x3 σ3))))) ∧ (r4 ≠ 32 → ((x5 = 0 → (XX g true (d + 1) P_X8_wordKind 13 [(2, 1), (0, x1), (0, x2), (0, x3), (0, w32 (x4 + 1)), (0, 0), (0, w32 (x6 + 1)), (9, 0)] [] 136 σ3 136 Q)) ∧ (x5 ≠ 0 → ((x2 ≤ x4 → (XX g true (d + 1) P_X8_wordKind 13 [(2, 1), (0, x1), (0, x2), (0, x3), (0, w32 (x4 + 1)), (0, 0), (0, w32 (x6 + 1)), (9, 0)] [] 136 σ3 136 Q)) ∧ (x4 < x2 → (0 ≤ x4 ∧ x4 < 500) ∧ ((σ3 2 x4 ≠ r4 → (XX g true (d + 1) P_X8_wordKind 13 [(2, 1), (0, x1), (0, x2), (0, x3), (0, w32 (x4 + 1)), (0, 0), (0, w32 (x6 + 1)), (9, 0)] [] 136 σ3 136 Q)) ∧ (σ3 2 x4 = r4 → (XX g true (d + 1) P_X8_wordKind 13 [(2, 1), (0, x1), (0, x2), (0, x3), (0, w32 (x4 + 1)), (0, 1), (0, w32 (x6 + 1)), (9, 0)] [] 136 σ3 136 Q)))))))))))))) : XX g true (d + 1) P_X8_wordKind 13 [(2, 1), (0, x1), (0, x2), (0, x3), (0, x4), (0, x5), (0, x6), (9, 0)] [] 136 σ 136 Q := by
  refine E_iload 15 dX8_wordKind_13 rfl rfl ?_
  refine E_ldcS 17 rfl dX8_wordKind_15 rfl ?_
  refine E_callT (as := []) 20 dX8_wordKind_17 cf_J0_length_8abf5 mw_610 mw_611 mw_612 rfl rfl rfl (Nat.le_of_ble_eq_true rfl) (Nat.le_of_ble_eq_true rfl) ⟨Nat.le_refl _, Nat.le_refl _⟩ rfl (w.mono (fun r2 σ1 w => ?_))
  show XX g true (d + 1) P_X8_wordKind 20 [(2, 1), (0, x1), (0, x2), (0, x3), (0, x4), (0, x5), (0, x6), (9, 0)] [(0, r2), (0, x6)] 136 σ1 136 Q
  refine E_icmp_ge 23 103 dX8_wordKind_20 rfl rfl (fun h => ?_) (fun h => ?_)
  · have w := w.1 h
    refine E_iconst 104 dX8_wordKind_103 (by decide) rfl ?_
    exact E_iret dX8_wordKind_104 rfl rfl w
  · have w := w.2 h
    refine E_ldcS 25 rfl dX8_wordKind_23 rfl ?_
    refine E_iload 27 dX8_wordKind_25 rfl rfl ?_
    refine E_callT (as := [(0, x6)]) 30 dX8_wordKind_27 cf_J0_charAt_5068e mw_620 mw_621 mw_622 rfl rfl rfl (Nat.le_of_ble_eq_true rfl) (Nat.le_of_ble_eq_true rfl) ⟨Nat.le_refl _, Nat.le_refl _⟩ rfl (w.mono (fun r4 σ3 w => ?_))
    show XX g true (d + 1) P_X8_wordKind 30 [(2, 1), (0, x1), (0, x2), (0, x3), (0, x4), (0, x5), (0, x6), (9, 0)] [(0, r4)] 136 σ3 136 Q
    refine E_istore (ls' := [(2, 1), (0, x1), (0, x2), (0, x3), (0, x4), (0, x5), (0, x6), (0, r4)]) 32 dX8_wordKind_30 (by decide) rfl rfl ?_
    refine E_iload 34 dX8_wordKind_32 rfl rfl ?_
    refine E_bipush 36 dX8_wordKind_34 (by decide) rfl ?_
    refine E_icmp_eq 39 75 dX8_wordKind_36 rfl rfl (fun h => ?_) (fun h => ?_)
    · have w := w.1 h
      refine E_iload 77 dX8_wordKind_75 rfl rfl ?_
      refine E_if_eq 80 88 dX8_wordKind_77 rfl rfl (fun h => ?_) (fun h => ?_)
      · have w := w.1 h
        refine E_iinc (ls' := [(2, 1), (0, x1), (0, x2), (0, w32 (x3 + 1)), (0, x4), (0, x5), (0, x6), (0, r4)]) 91 dX8_wordKind_88 (by decide) rfl rfl rfl ?_
        refine E_iload_n 92 dX8_wordKind_91 rfl rfl ?_
        refine E_istore (ls' := [(2, 1), (0, x1), (0, x2), (0, w32 (x3 + 1)), (0, x1), (0, x5), (0, x6), (0, r4)]) 94 dX8_wordKind_92 (by decide) rfl rfl ?_
        refine E_iconst 95 dX8_wordKind_94 (by decide) rfl ?_
        refine E_istore (ls' := [(2, 1), (0, x1), (0, x2), (0, w32 (x3 + 1)), (0, x1), (0, 1), (0, x6), (0, r4)]) 97 dX8_wordKind_95 (by decide) rfl rfl ?_
        refine E_iinc (ls' := [(2, 1), (0, x1), (0, x2), (0, w32 (x3 + 1)), (0, x1), (0, 1), (0, w32 (x6 + 1)), (0, r4)]) 100 dX8_wordKind_97 (by decide) rfl rfl rfl ?_
        refine E_goto 13 dX8_wordKind_100 rfl ?_
        refine XX.fg [7] [(2, 1), (0, x1), (0, x2), (0, w32 (x3 + 1)), (0, x1), (0, 1), (0, w32 (x6 + 1)), (9, 0)] rfl ?_
        with_reducible exact w
      · have w := w.2 h
        refine E_iload 82 dX8_wordKind_80 rfl rfl ?_
        refine E_iload_n 83 dX8_wordKind_82 rfl rfl ?_
        refine E_icmp_ne 86 88 dX8_wordKind_83 rfl rfl (fun h => ?_) (fun h => ?_)
        · have w := w.1 h
          refine E_iinc (ls' := [(2, 1), (0, x1), (0, x2), (0, w32 (x3 + 1)), (0, x4), (0, x5), (0, x6), (0, r4)]) 91 dX8_wordKind_88 (by decide) rfl rfl rfl ?_
          refine E_iload_n 92 dX8_wordKind_91 rfl rfl ?_
          refine E_istore (ls' := [(2, 1), (0, x1), (0, x2), (0, w32 (x3 + 1)), (0, x1), (0, x5), (0, x6), (0, r4)]) 94 dX8_wordKind_92 (by decide) rfl rfl ?_
          refine E_iconst 95 dX8_wordKind_94 (by decide) rfl ?_
          refine E_istore (ls' := [(2, 1), (0, x1), (0, x2), (0, w32 (x3 + 1)), (0, x1), (0, 1), (0, x6), (0, r4)]) 97 dX8_wordKind_95 (by decide) rfl rfl ?_
          refine E_iinc (ls' := [(2, 1), (0, x1), (0, x2), (0, w32 (x3 + 1)), (0, x1), (0, 1), (0, w32 (x6 + 1)), (0, r4)]) 100 dX8_wordKind_97 (by decide) rfl rfl rfl ?_
          refine E_goto 13 dX8_wordKind_100 rfl ?_
          refine XX.fg [7] [(2, 1), (0, x1), (0, x2), (0, w32 (x3 + 1)), (0, x1), (0, 1), (0, w32 (x6 + 1)), (9, 0)] rfl ?_
          with_reducible exact w
        · have w := w.2 h
          refine E_iload_n 87 dX8_wordKind_86 rfl rfl ?_
          exact E_iret dX8_wordKind_87 rfl rfl w
    · have w := w.2 h
      refine E_iload 41 dX8_wordKind_39 rfl rfl ?_
      refine E_if_eq 44 66 dX8_wordKind_41 rfl rfl (fun h => ?_) (fun h => ?_)
      · have w := w.1 h
        refine E_iconst 67 dX8_wordKind_66 (by decide) rfl ?_
        refine E_istore (ls' := [(2, 1), (0, x1), (0, x2), (0, x3), (0, x4), (0, 0), (0, x6), (0, r4)]) 69 dX8_wordKind_67 (by decide) rfl rfl ?_
        refine E_iinc (ls' := [(2, 1), (0, x1), (0, x2), (0, x3), (0, w32 (x4 + 1)), (0, 0), (0, x6), (0, r4)]) 72 dX8_wordKind_69 (by decide) rfl rfl rfl ?_
        refine E_goto 97 dX8_wordKind_72 rfl ?_
        refine E_iinc (ls' := [(2, 1), (0, x1), (0, x2), (0, x3), (0, w32 (x4 + 1)), (0, 0), (0, w32 (x6 + 1)), (0, r4)]) 100 dX8_wordKind_97 (by decide) rfl rfl rfl ?_
        refine E_goto 13 dX8_wordKind_100 rfl ?_
        refine XX.fg [7] [(2, 1), (0, x1), (0, x2), (0, x3), (0, w32 (x4 + 1)), (0, 0), (0, w32 (x6 + 1)), (9, 0)] rfl ?_
        with_reducible exact w
      · have w := w.2 h
        refine E_iload 46 dX8_wordKind_44 rfl rfl ?_
        refine E_iload_n 47 dX8_wordKind_46 rfl rfl ?_
        refine E_icmp_ge 50 66 dX8_wordKind_47 rfl rfl (fun h => ?_) (fun h => ?_)
        · have w := w.1 h
          refine E_iconst 67 dX8_wordKind_66 (by decide) rfl ?_
          refine E_istore (ls' := [(2, 1), (0, x1), (0, x2), (0, x3), (0, x4), (0, 0), (0, x6), (0, r4)]) 69 dX8_wordKind_67 (by decide) rfl rfl ?_
          refine E_iinc (ls' := [(2, 1), (0, x1), (0, x2), (0, x3), (0, w32 (x4 + 1)), (0, 0), (0, x6), (0, r4)]) 72 dX8_wordKind_69 (by decide) rfl rfl rfl ?_
          refine E_goto 97 dX8_wordKind_72 rfl ?_
          refine E_iinc (ls' := [(2, 1), (0, x1), (0, x2), (0, x3), (0, w32 (x4 + 1)), (0, 0), (0, w32 (x6 + 1)), (0, r4)]) 100 dX8_wordKind_97 (by decide) rfl rfl rfl ?_
          refine E_goto 13 dX8_wordKind_100 rfl ?_
          refine XX.fg [7] [(2, 1), (0, x1), (0, x2), (0, x3), (0, w32 (x4 + 1)), (0, 0), (0, w32 (x6 + 1)), (9, 0)] rfl ?_
          with_reducible exact w
        · have w := w.2 h
          refine E_aload_n 51 dX8_wordKind_50 rfl (ac_1.bnd) rfl ?_
          refine E_getL 54 dX8_wordKind_51 fl_X8_9 ac_1 rfl (by decide) lay_1_0 rfl ?_
          refine E_iload 56 dX8_wordKind_54 rfl rfl ?_
          obtain ⟨c5, w⟩ := w
          refine E_bald 57 dX8_wordKind_56 ac_2 c5 rfl ?_
          refine E_iload 59 dX8_wordKind_57 rfl rfl ?_
          refine E_icmp_ne 62 66 dX8_wordKind_59 rfl rfl (fun h => ?_) (fun h => ?_)
          · have w := w.1 h
            refine E_iconst 67 dX8_wordKind_66 (by decide) rfl ?_
            refine E_istore (ls' := [(2, 1), (0, x1), (0, x2), (0, x3), (0, x4), (0, 0), (0, x6), (0, r4)]) 69 dX8_wordKind_67 (by decide) rfl rfl ?_
            refine E_iinc (ls' := [(2, 1), (0, x1), (0, x2), (0, x3), (0, w32 (x4 + 1)), (0, 0), (0, x6), (0, r4)]) 72 dX8_wordKind_69 (by decide) rfl rfl rfl ?_
            refine E_goto 97 dX8_wordKind_72 rfl ?_
            refine E_iinc (ls' := [(2, 1), (0, x1), (0, x2), (0, x3), (0, w32 (x4 + 1)), (0, 0), (0, w32 (x6 + 1)), (0, r4)]) 100 dX8_wordKind_97 (by decide) rfl rfl rfl ?_
            refine E_goto 13 dX8_wordKind_100 rfl ?_
            refine XX.fg [7] [(2, 1), (0, x1), (0, x2), (0, x3), (0, w32 (x4 + 1)), (0, 0), (0, w32 (x6 + 1)), (9, 0)] rfl ?_
            with_reducible exact w
          · have w := w.2 h
            refine E_iconst 63 dX8_wordKind_62 (by decide) rfl ?_
            refine E_goto 67 dX8_wordKind_63 rfl ?_
            refine E_istore (ls' := [(2, 1), (0, x1), (0, x2), (0, x3), (0, x4), (0, 1), (0, x6), (0, r4)]) 69 dX8_wordKind_67 (by decide) rfl rfl ?_
            refine E_iinc (ls' := [(2, 1), (0, x1), (0, x2), (0, x3), (0, w32 (x4 + 1)), (0, 1), (0, x6), (0, r4)]) 72 dX8_wordKind_69 (by decide) rfl rfl rfl ?_
            refine E_goto 97 dX8_wordKind_72 rfl ?_
            refine E_iinc (ls' := [(2, 1), (0, x1), (0, x2), (0, x3), (0, w32 (x4 + 1)), (0, 1), (0, w32 (x6 + 1)), (0, r4)]) 100 dX8_wordKind_97 (by decide) rfl rfl rfl ?_
            refine E_goto 13 dX8_wordKind_100 rfl ?_
            refine XX.fg [7] [(2, 1), (0, x1), (0, x2), (0, x3), (0, w32 (x4 + 1)), (0, 1), (0, w32 (x6 + 1)), (9, 0)] rfl ?_
            with_reducible exact w
theorem B_X8_valueOf_0 {g : PG} {d : Nat} {σ : PS} {Q : Int → PS → Prop} {x1 x2 : Int}  (w : (XX g true d P_X8_valueOf 5 [(2, 1), (9, 0), (0, x2), (0, 0), (0, x1)] [] 136 σ 136 Q)) : XX g true d P_X8_valueOf 0 [(2, 1), (0, x1), (0, x2), (9, 0), (9, 0)] [] 136 σ 136 Q := by
  refine E_iconst 1 dX8_valueOf_0 (by decide) rfl ?_
  refine E_istore_n (ls' := [(2, 1), (0, x1), (0, x2), (0, 0), (9, 0)]) 2 dX8_valueOf_1 (by decide) rfl rfl ?_
  refine E_iload_n 3 dX8_valueOf_2 rfl rfl ?_
  refine E_istore (ls' := [(2, 1), (0, x1), (0, x2), (0, 0), (0, x1)]) 5 dX8_valueOf_3 (by decide) rfl rfl ?_
  refine XX.fg [1] [(2, 1), (9, 0), (0, x2), (0, 0), (0, x1)] rfl ?_
  with_reducible exact w
theorem B_X8_valueOf_5 {g : PG} {d : Nat} {σ : PS} {Q : Int → PS → Prop} {x2 x3 x4 : Int}  (w : ((x2 ≤ x4 → Q x3 σ) ∧ (x4 < x2 → (0 ≤ x4 ∧ x4 < 500) ∧ ∀ y2, y2 = w32 ((w32 ((w32 (10 * x3)) + (σ 2 x4))) - 48) → (XX g true d P_X8_valueOf 5 [(2, 1), (9, 0), (0, x2), (0, y2), (0, w32 (x4 + 1))] [] 136 σ 136 Q)))) : XX g true d P_X8_valueOf 5 [(2, 1), (9, 0), (0, x2), (0, x3), (0, x4)] [] 136 σ 136 Q := by
  refine E_iload 7 dX8_valueOf_5 rfl rfl ?_
  refine E_iload_n 8 dX8_valueOf_7 rfl rfl ?_
  refine E_icmp_ge 11 33 dX8_valueOf_8 rfl rfl (fun h => ?_) (fun h => ?_)
  · have w := w.1 h
    refine E_iload_n 34 dX8_valueOf_33 rfl rfl ?_
    exact E_iret dX8_valueOf_34 rfl rfl w
  · have w := w.2 h
    refine E_bipush 13 dX8_valueOf_11 (by decide) rfl ?_
    refine E_iload_n 14 dX8_valueOf_13 rfl rfl ?_
    refine E_imul 15 dX8_valueOf_14 rfl ?_
    refine E_aload_n 16 dX8_valueOf_15 rfl (ac_1.bnd) rfl ?_
    refine E_getL 19 dX8_valueOf_16 fl_X8_9 ac_1 rfl (by decide) lay_1_0 rfl ?_
    refine E_iload 21 dX8_valueOf_19 rfl rfl ?_
    obtain ⟨c1, w⟩ := w
    refine E_bald 22 dX8_valueOf_21 ac_2 c1 rfl ?_
    refine E_iadd 23 dX8_valueOf_22 rfl ?_
    refine E_bipush 25 dX8_valueOf_23 (by decide) rfl ?_
    refine E_isub 26 dX8_valueOf_25 rfl ?_
    refine E_top (fun y2 hy2 => ?_)
    have w := w y2 hy2
    refine E_istore_n (ls' := [(2, 1), (9, 0), (0, x2), (0, y2), (0, x4)]) 27 dX8_valueOf_26 (by decide) rfl rfl ?_
    refine E_iinc (ls' := [(2, 1), (9, 0), (0, x2), (0, y2), (0, w32 (x4 + 1))]) 30 dX8_valueOf_27 (by decide) rfl rfl rfl ?_
    refine E_goto 5 dX8_valueOf_30 rfl ?_
    with_reducible exact w
theorem B_X8_isBlank_0 {g : PG} {d : Nat} {σ : PS} {Q : Int → PS → Prop} {x0 : Int}  (w : ((x0 = 32 → Q 1 σ) ∧ (x0 ≠ 32 → ((x0 ≠ 10 → Q 0 σ) ∧ (x0 = 10 → Q 1 σ))))) : XX g true d P_X8_isBlank 0 [(0, x0)] [] 136 σ 136 Q := by
  refine E_iload_n 1 dX8_isBlank_0 rfl rfl ?_
  refine E_bipush 3 dX8_isBlank_1 (by decide) rfl ?_
  refine E_icmp_eq 6 12 dX8_isBlank_3 rfl rfl (fun h => ?_) (fun h => ?_)
  · have w := w.1 h
    refine E_iconst 13 dX8_isBlank_12 (by decide) rfl ?_
    refine E_goto 17 dX8_isBlank_13 rfl ?_
    exact E_zret dX8_isBlank_17 rfl rfl (Or.inr rfl) w
  · have w := w.2 h
    refine E_iload_n 7 dX8_isBlank_6 rfl rfl ?_
    refine E_bipush 9 dX8_isBlank_7 (by decide) rfl ?_
    refine E_icmp_ne 12 16 dX8_isBlank_9 rfl rfl (fun h => ?_) (fun h => ?_)
    · have w := w.1 h
      refine E_iconst 17 dX8_isBlank_16 (by decide) rfl ?_
      exact E_zret dX8_isBlank_17 rfl rfl (Or.inl rfl) w
    · have w := w.2 h
      refine E_iconst 13 dX8_isBlank_12 (by decide) rfl ?_
      refine E_goto 17 dX8_isBlank_13 rfl ?_
      exact E_zret dX8_isBlank_17 rfl rfl (Or.inr rfl) w
theorem B_X8_isLetter_0 {g : PG} {d : Nat} {σ : PS} {Q : Int → PS → Prop} {x0 : Int}  (w : ((x0 < 97 → ((x0 < 65 → Q 0 σ) ∧ (65 ≤ x0 → ((90 < x0 → Q 0 σ) ∧ (x0 ≤ 90 → Q 1 σ))))) ∧ (97 ≤ x0 → ((x0 ≤ 122 → Q 1 σ) ∧ (122 < x0 → ((x0 < 65 → Q 0 σ) ∧ (65 ≤ x0 → ((90 < x0 → Q 0 σ) ∧ (x0 ≤ 90 → Q 1 σ))))))))) : XX g true d P_X8_isLetter 0 [(0, x0)] [] 136 σ 136 Q := by
  refine E_iload_n 1 dX8_isLetter_0 rfl rfl ?_
  refine E_bipush 3 dX8_isLetter_1 (by decide) rfl ?_
  refine E_icmp_lt 6 12 dX8_isLetter_3 rfl rfl (fun h => ?_) (fun h => ?_)
  · have w := w.1 h
    refine E_iload_n 13 dX8_isLetter_12 rfl rfl ?_
    refine E_bipush 15 dX8_isLetter_13 (by decide) rfl ?_
    refine E_icmp_lt 18 28 dX8_isLetter_15 rfl rfl (fun h => ?_) (fun h => ?_)
    · have w := w.1 h
      refine E_iconst 29 dX8_isLetter_28 (by decide) rfl ?_
      exact E_zret dX8_isLetter_29 rfl rfl (Or.inl rfl) w
    · have w := w.2 h
      refine E_iload_n 19 dX8_isLetter_18 rfl rfl ?_
      refine E_bipush 21 dX8_isLetter_19 (by decide) rfl ?_
      refine E_icmp_gt 24 28 dX8_isLetter_21 rfl rfl (fun h => ?_) (fun h => ?_)
      · have w := w.1 h
        refine E_iconst 29 dX8_isLetter_28 (by decide) rfl ?_
        exact E_zret dX8_isLetter_29 rfl rfl (Or.inl rfl) w
      · have w := w.2 h
        refine E_iconst 25 dX8_isLetter_24 (by decide) rfl ?_
        refine E_goto 29 dX8_isLetter_25 rfl ?_
        exact E_zret dX8_isLetter_29 rfl rfl (Or.inr rfl) w
  · have w := w.2 h
    refine E_iload_n 7 dX8_isLetter_6 rfl rfl ?_
    refine E_bipush 9 dX8_isLetter_7 (by decide) rfl ?_
    refine E_icmp_le 12 24 dX8_isLetter_9 rfl rfl (fun h => ?_) (fun h => ?_)
    · have w := w.1 h
      refine E_iconst 25 dX8_isLetter_24 (by decide) rfl ?_
      refine E_goto 29 dX8_isLetter_25 rfl ?_
      exact E_zret dX8_isLetter_29 rfl rfl (Or.inr rfl) w
    · have w := w.2 h
      refine E_iload_n 13 dX8_isLetter_12 rfl rfl ?_
      refine E_bipush 15 dX8_isLetter_13 (by decide) rfl ?_
      refine E_icmp_lt 18 28 dX8_isLetter_15 rfl rfl (fun h => ?_) (fun h => ?_)
      · have w := w.1 h
        refine E_iconst 29 dX8_isLetter_28 (by decide) rfl ?_
        exact E_zret dX8_isLetter_29 rfl rfl (Or.inl rfl) w
      · have w := w.2 h
        refine E_iload_n 19 dX8_isLetter_18 rfl rfl ?_
        refine E_bipush 21 dX8_isLetter_19 (by decide) rfl ?_
        refine E_icmp_gt 24 28 dX8_isLetter_21 rfl rfl (fun h => ?_) (fun h => ?_)
        · have w := w.1 h
          refine E_iconst 29 dX8_isLetter_28 (by decide) rfl ?_
          exact E_zret dX8_isLetter_29 rfl rfl (Or.inl rfl) w
        · have w := w.2 h
          refine E_iconst 25 dX8_isLetter_24 (by decide) rfl ?_
          refine E_goto 29 dX8_isLetter_25 rfl ?_
          exact E_zret dX8_isLetter_29 rfl rfl (Or.inr rfl) w
theorem B_X8_isDigit_0 {g : PG} {d : Nat} {σ : PS} {Q : Int → PS → Prop} {x0 : Int}  (w : ((x0 < 48 → Q 0 σ) ∧ (48 ≤ x0 → ((57 < x0 → Q 0 σ) ∧ (x0 ≤ 57 → Q 1 σ))))) : XX g true d P_X8_isDigit 0 [(0, x0)] [] 136 σ 136 Q := by
  refine E_iload_n 1 dX8_isDigit_0 rfl rfl ?_
  refine E_bipush 3 dX8_isDigit_1 (by decide) rfl ?_
  refine E_icmp_lt 6 16 dX8_isDigit_3 rfl rfl (fun h => ?_) (fun h => ?_)
  · have w := w.1 h
    refine E_iconst 17 dX8_isDigit_16 (by decide) rfl ?_
    exact E_zret dX8_isDigit_17 rfl rfl (Or.inl rfl) w
  · have w := w.2 h
    refine E_iload_n 7 dX8_isDigit_6 rfl rfl ?_
    refine E_bipush 9 dX8_isDigit_7 (by decide) rfl ?_
    refine E_icmp_gt 12 16 dX8_isDigit_9 rfl rfl (fun h => ?_) (fun h => ?_)
    · have w := w.1 h
      refine E_iconst 17 dX8_isDigit_16 (by decide) rfl ?_
      exact E_zret dX8_isDigit_17 rfl rfl (Or.inl rfl) w
    · have w := w.2 h
      refine E_iconst 13 dX8_isDigit_12 (by decide) rfl ?_
      refine E_goto 17 dX8_isDigit_13 rfl ?_
      exact E_zret dX8_isDigit_17 rfl rfl (Or.inr rfl) w
theorem B_X8_isSymbol_0 {g : PG} {d : Nat} {σ : PS} {Q : Int → PS → Prop} {x0 : Int}  (w : ((x0 = 59 → Q 1 σ) ∧ (x0 ≠ 59 → ((x0 = 43 → Q 1 σ) ∧ (x0 ≠ 43 → ((x0 = 45 → Q 1 σ) ∧ (x0 ≠ 45 → ((x0 = 42 → Q 1 σ) ∧ (x0 ≠ 42 → ((x0 = 47 → Q 1 σ) ∧ (x0 ≠ 47 → ((x0 = 40 → Q 1 σ) ∧ (x0 ≠ 40 → ((x0 = 41 → Q 1 σ) ∧ (x0 ≠ 41 → ((x0 = 60 → Q 1 σ) ∧ (x0 ≠ 60 → ((x0 = 61 → Q 1 σ) ∧ (x0 ≠ 61 → ((x0 ≠ 62 → Q 0 σ) ∧ (x0 = 62 → Q 1 σ))))))))))))))))))))) : XX g true d P_X8_isSymbol 0 [(0, x0)] [] 136 σ 136 Q := by
  refine E_iload_n 1 dX8_isSymbol_0 rfl rfl ?_
  refine E_bipush 3 dX8_isSymbol_1 (by decide) rfl ?_
  refine E_icmp_eq 6 60 dX8_isSymbol_3 rfl rfl (fun h => ?_) (fun h => ?_)
  · have w := w.1 h
    refine E_iconst 61 dX8_isSymbol_60 (by decide) rfl ?_
    refine E_goto 65 dX8_isSymbol_61 rfl ?_
    exact E_zret dX8_isSymbol_65 rfl rfl (Or.inr rfl) w
  · have w := w.2 h
    refine E_iload_n 7 dX8_isSymbol_6 rfl rfl ?_
    refine E_bipush 9 dX8_isSymbol_7 (by decide) rfl ?_
    refine E_icmp_eq 12 60 dX8_isSymbol_9 rfl rfl (fun h => ?_) (fun h => ?_)
    · have w := w.1 h
      refine E_iconst 61 dX8_isSymbol_60 (by decide) rfl ?_
      refine E_goto 65 dX8_isSymbol_61 rfl ?_
      exact E_zret dX8_isSymbol_65 rfl rfl (Or.inr rfl) w
    · have w := w.2 h
      refine E_iload_n 13 dX8_isSymbol_12 rfl rfl ?_
      refine E_bipush 15 dX8_isSymbol_13 (by decide) rfl ?_
      refine E_icmp_eq 18 60 dX8_isSymbol_15 rfl rfl (fun h => ?_) (fun h => ?_)
      · have w := w.1 h
        refine E_iconst 61 dX8_isSymbol_60 (by decide) rfl ?_
        refine E_goto 65 dX8_isSymbol_61 rfl ?_
        exact E_zret dX8_isSymbol_65 rfl rfl (Or.inr rfl) w
      · have w := w.2 h
        refine E_iload_n 19 dX8_isSymbol_18 rfl rfl ?_
        refine E_bipush 21 dX8_isSymbol_19 (by decide) rfl ?_
        refine E_icmp_eq 24 60 dX8_isSymbol_21 rfl rfl (fun h => ?_) (fun h => ?_)
        · have w := w.1 h
          refine E_iconst 61 dX8_isSymbol_60 (by decide) rfl ?_
          refine E_goto 65 dX8_isSymbol_61 rfl ?_
          exact E_zret dX8_isSymbol_65 rfl rfl (Or.inr rfl) w
        · have w := w.2 h
          refine E_iload_n 25 dX8_isSymbol_24 rfl rfl ?_
          refine E_bipush 27 dX8_isSymbol_25 (by decide) rfl ?_
          refine E_icmp_eq 30 60 dX8_isSymbol_27 rfl rfl (fun h => ?_) (fun h => ?_)
          · have w := w.1 h
            refine E_iconst 61 dX8_isSymbol_60 (by decide) rfl ?_
            refine E_goto 65 dX8_isSymbol_61 rfl ?_
            exact E_zret dX8_isSymbol_65 rfl rfl (Or.inr rfl) w
          · have w := w.2 h
            refine E_iload_n 31 dX8_isSymbol_30 rfl rfl ?_
            refine E_bipush 33 dX8_isSymbol_31 (by decide) rfl ?_
            refine E_icmp_eq 36 60 dX8_isSymbol_33 rfl rfl (fun h => ?_) (fun h => ?_)
            · have w := w.1 h
              refine E_iconst 61 dX8_isSymbol_60 (by decide) rfl ?_
              refine E_goto 65 dX8_isSymbol_61 rfl ?_
              exact E_zret dX8_isSymbol_65 rfl rfl (Or.inr rfl) w
            · have w := w.2 h
              refine E_iload_n 37 dX8_isSymbol_36 rfl rfl ?_
              refine E_bipush 39 dX8_isSymbol_37 (by decide) rfl ?_
              refine E_icmp_eq 42 60 dX8_isSymbol_39 rfl rfl (fun h => ?_) (fun h => ?_)
              · have w := w.1 h
                refine E_iconst 61 dX8_isSymbol_60 (by decide) rfl ?_
                refine E_goto 65 dX8_isSymbol_61 rfl ?_
                exact E_zret dX8_isSymbol_65 rfl rfl (Or.inr rfl) w
              · have w := w.2 h
                refine E_iload_n 43 dX8_isSymbol_42 rfl rfl ?_
                refine E_bipush 45 dX8_isSymbol_43 (by decide) rfl ?_
                refine E_icmp_eq 48 60 dX8_isSymbol_45 rfl rfl (fun h => ?_) (fun h => ?_)
                · have w := w.1 h
                  refine E_iconst 61 dX8_isSymbol_60 (by decide) rfl ?_
                  refine E_goto 65 dX8_isSymbol_61 rfl ?_
                  exact E_zret dX8_isSymbol_65 rfl rfl (Or.inr rfl) w
                · have w := w.2 h
                  refine E_iload_n 49 dX8_isSymbol_48 rfl rfl ?_
                  refine E_bipush 51 dX8_isSymbol_49 (by decide) rfl ?_
                  refine E_icmp_eq 54 60 dX8_isSymbol_51 rfl rfl (fun h => ?_) (fun h => ?_)
                  · have w := w.1 h
                    refine E_iconst 61 dX8_isSymbol_60 (by decide) rfl ?_
                    refine E_goto 65 dX8_isSymbol_61 rfl ?_
                    exact E_zret dX8_isSymbol_65 rfl rfl (Or.inr rfl) w
                  · have w := w.2 h
                    refine E_iload_n 55 dX8_isSymbol_54 rfl rfl ?_
                    refine E_bipush 57 dX8_isSymbol_55 (by decide) rfl ?_
                    refine E_icmp_ne 60 64 dX8_isSymbol_57 rfl rfl (fun h => ?_) (fun h => ?_)
                    · have w := w.1 h
                      refine E_iconst 65 dX8_isSymbol_64 (by decide) rfl ?_
                      exact E_zret dX8_isSymbol_65 rfl rfl (Or.inl rfl) w
                    · have w := w.2 h
                      refine E_iconst 61 dX8_isSymbol_60 (by decide) rfl ?_
                      refine E_goto 65 dX8_isSymbol_61 rfl ?_
                      exact E_zret dX8_isSymbol_65 rfl rfl (Or.inr rfl) w
theorem B_X9_lines_0 {g : PG} {d : Nat} {σ : PS} {Q : Int → PS → Prop} {x1 q0 : Int} (hq0 : TxtAt q0) (w : ((x1 ≠ 0 → ((x1 ≠ 1 → Q (q0 + 9) σ) ∧ (x1 = 1 → Q (q0 + 5) σ))) ∧ (x1 = 0 → Q (q0 + 1) σ))) : XX g true d P_X9_lines 0 [(2, q0), (0, x1)] [] 136 σ 136 Q := by
  refine E_iload_n 1 dX9_lines_0 rfl rfl ?_
  refine E_if_ne 4 9 dX9_lines_1 rfl rfl (fun h => ?_) (fun h => ?_)
  · have w := w.1 h
    refine E_iload_n 10 dX9_lines_9 rfl rfl ?_
    refine E_iconst 11 dX9_lines_10 (by decide) rfl ?_
    refine E_icmp_ne 14 21 dX9_lines_11 rfl rfl (fun h => ?_) (fun h => ?_)
    · have w := w.1 h
      refine E_aload_n 22 dX9_lines_21 rfl (TxtB hq0) rfl ?_
      refine E_getL 25 dX9_lines_22 fl_X9_19 (TxtF0 hq0) rfl (by decide) (TxtL2 hq0) rfl ?_
      exact E_aret dX9_lines_25 rfl rfl w
    · have w := w.2 h
      refine E_aload_n 15 dX9_lines_14 rfl (TxtB hq0) rfl ?_
      refine E_getL 18 dX9_lines_15 fl_X9_16 (TxtF0 hq0) rfl (by decide) (TxtL1 hq0) rfl ?_
      refine E_goto 25 dX9_lines_18 rfl ?_
      exact E_aret dX9_lines_25 rfl rfl w
  · have w := w.2 h
    refine E_aload_n 5 dX9_lines_4 rfl (TxtB hq0) rfl ?_
    refine E_getL 8 dX9_lines_5 fl_X9_10 (TxtF0 hq0) rfl (by decide) (TxtL0 hq0) rfl ?_
    exact E_aret dX9_lines_8 rfl rfl w
theorem B_X9_copy_0 {g : PG} {d : Nat} {σ : PS} {Q : Int → PS → Prop} {q0 q1 : Int} (hq0 : TxtAt q0) (hq1 : TxtAt q1) (w : XX g true d P_X4_copy 0 [(2, q0 + 1), (2, q1 + 1)] [] 136 σ 136 (fun _ σ1 => XX g true d P_X4_copy 0 [(2, q0 + 5), (2, q1 + 5)] [] 136 σ1 136 (fun _ σ3 => XX g true d P_X4_copy 0 [(2, q0 + 9), (2, q1 + 9)] [] 136 σ3 136 (fun _ σ5 => XX g true d P_X1_copy 0 [(2, q0 + 13), (2, q1 + 13)] [] 136 σ5 136 (fun _ σ7 => Q 0 σ7))))) : XX g true (d + 1) P_X9_copy 0 [(2, q0), (2, q1)] [] 136 σ 136 Q := by
  refine E_aload_n 1 dX9_copy_0 rfl (TxtB hq0) rfl ?_
  refine E_getL 4 dX9_copy_1 fl_X9_10 (TxtF0 hq0) rfl (by decide) (TxtL0 hq0) rfl ?_
  refine E_aload_n 5 dX9_copy_4 rfl (TxtB hq1) rfl ?_
  refine E_getL 8 dX9_copy_5 fl_X9_10 (TxtF0 hq1) rfl (by decide) (TxtL0 hq1) rfl ?_
  refine E_callV (as := [(2, q1 + 1)]) 11 dX9_copy_8 cf_X4_copy mw_1099 mw_795 mw_796 (LinF0 (Txt_law hq0)) (by decide) cl_X4 rfl rfl (Nat.le_of_ble_eq_true rfl) (Nat.le_of_ble_eq_true rfl) ⟨Nat.le_refl _, Nat.le_refl _⟩ rfl (w.mono (fun r2 σ1 w => ?_))
  show XX g true (d + 1) P_X9_copy 11 [(2, q0), (2, q1)] [] 136 σ1 136 Q
  refine E_aload_n 12 dX9_copy_11 rfl (TxtB hq0) rfl ?_
  refine E_getL 15 dX9_copy_12 fl_X9_16 (TxtF0 hq0) rfl (by decide) (TxtL1 hq0) rfl ?_
  refine E_aload_n 16 dX9_copy_15 rfl (TxtB hq1) rfl ?_
  refine E_getL 19 dX9_copy_16 fl_X9_16 (TxtF0 hq1) rfl (by decide) (TxtL1 hq1) rfl ?_
  refine E_callV (as := [(2, q1 + 5)]) 22 dX9_copy_19 cf_X4_copy mw_1099 mw_795 mw_796 (LinF0 (Txt_first hq0)) (by decide) cl_X4 rfl rfl (Nat.le_of_ble_eq_true rfl) (Nat.le_of_ble_eq_true rfl) ⟨Nat.le_refl _, Nat.le_refl _⟩ rfl (w.mono (fun r4 σ3 w => ?_))
  show XX g true (d + 1) P_X9_copy 22 [(2, q0), (2, q1)] [] 136 σ3 136 Q
  refine E_aload_n 23 dX9_copy_22 rfl (TxtB hq0) rfl ?_
  refine E_getL 26 dX9_copy_23 fl_X9_19 (TxtF0 hq0) rfl (by decide) (TxtL2 hq0) rfl ?_
  refine E_aload_n 27 dX9_copy_26 rfl (TxtB hq1) rfl ?_
  refine E_getL 30 dX9_copy_27 fl_X9_19 (TxtF0 hq1) rfl (by decide) (TxtL2 hq1) rfl ?_
  refine E_callV (as := [(2, q1 + 9)]) 33 dX9_copy_30 cf_X4_copy mw_1099 mw_795 mw_796 (LinF0 (Txt_second hq0)) (by decide) cl_X4 rfl rfl (Nat.le_of_ble_eq_true rfl) (Nat.le_of_ble_eq_true rfl) ⟨Nat.le_refl _, Nat.le_refl _⟩ rfl (w.mono (fun r6 σ5 w => ?_))
  show XX g true (d + 1) P_X9_copy 33 [(2, q0), (2, q1)] [] 136 σ5 136 Q
  refine E_aload_n 34 dX9_copy_33 rfl (TxtB hq0) rfl ?_
  refine E_getL 37 dX9_copy_34 fl_X9_25 (TxtF0 hq0) rfl (by decide) (TxtL3 hq0) rfl ?_
  refine E_aload_n 38 dX9_copy_37 rfl (TxtB hq1) rfl ?_
  refine E_getL 41 dX9_copy_38 fl_X9_25 (TxtF0 hq1) rfl (by decide) (TxtL3 hq1) rfl ?_
  refine E_callV (as := [(2, q1 + 13)]) 44 dX9_copy_41 cf_X1_copy mw_1100 mw_784 mw_785 (BrkF0 (Txt_breaks hq0)) (by decide) cl_X1 rfl rfl (Nat.le_of_ble_eq_true rfl) (Nat.le_of_ble_eq_true rfl) ⟨Nat.le_refl _, Nat.le_refl _⟩ rfl (w.mono (fun r8 σ7 w => ?_))
  show XX g true (d + 1) P_X9_copy 44 [(2, q0), (2, q1)] [] 136 σ7 136 Q
  exact E_vret dX9_copy_44 rfl rfl w
