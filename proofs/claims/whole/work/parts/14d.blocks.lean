/-! BLOCKS, printed by a program of ours: what each stretch of a method asks -/
theorem B_X12_reads_0 {g : PG} {d : Nat} {σ : PS} {Q : Int → PS → Prop}  (w : XX g true d P_X12_raw 0 [(2, 88), (0, σ 88 20)] [] 136 σ 136 (fun r2 σ1 => ((r2 = 32 → (XX g true (d + 1) P_X12_reads 0 [(2, 88), (9, 0)] [] 136 (su σ1 88 20 (w32 ((σ1 88 20) + 1))) 136 Q)) ∧ (r2 ≠ 32 → XX g true d P_X12_raw 0 [(2, 88), (0, σ1 88 20)] [] 136 σ1 136 (fun r4 σ3 => ((r4 ≠ 10 → XX g true d P_X12_raw 0 [(2, 88), (0, σ3 88 20)] [] 136 (su (su σ3 88 21 (σ3 88 20)) 88 22 1) 136 (fun r6 σ5 => ((r6 ≠ (-1) → XX g true d P_X12_isLetter 0 [(2, 88), (0, r6)] [] 136 (su (su σ5 88 20 (w32 ((σ5 88 20) + 1))) 88 23 r6) 136 (fun r8 σ7 => ((r8 = 0 → XX g true d P_X12_isDigit 0 [(2, 88), (0, r6)] [] 136 σ7 136 (fun r10 σ9 => ((r10 = 0 → XX g true d P_X12_isMarkSign 0 [(2, 88), (0, r6)] [] 136 σ9 136 (fun r12 σ11 => ((r12 = 0 → Q 0 σ11) ∧ (r12 ≠ 0 → Q 0 (su σ11 88 22 4))))) ∧ (r10 ≠ 0 → (XX g true (d + 1) P_X12_reads 171 [(2, 88), (9, 0)] [] 136 (su σ9 88 23 (w32 (r6 - 48))) 136 Q))))) ∧ (r8 ≠ 0 → (XX g true (d + 1) P_X12_reads 95 [(2, 88), (9, 0)] [] 136 σ7 136 Q))))) ∧ (r6 = (-1) → Q 0 (su σ5 88 22 0))))) ∧ (r4 = 10 → (XX g true (d + 1) P_X12_reads 0 [(2, 88), (9, 0)] [] 136 (su σ3 88 20 (w32 ((σ3 88 20) + 1))) 136 Q)))))))) : XX g true (d + 1) P_X12_reads 0 [(2, 88), (9, 0)] [] 136 σ 136 Q := by
  refine E_aload_n 1 dX12_reads_0 rfl (ac_88.bnd) rfl ?_
  refine E_aload_n 2 dX12_reads_1 rfl (ac_88.bnd) rfl ?_
  refine E_get 20 5 dX12_reads_2 fl_X12_199 ac_88 rfl (by decide) rfl rfl ?_
  refine E_callV (as := [(0, σ 88 20)]) 8 dX12_reads_5 cf_X12_raw mw_1411 mw_1413 mw_45 ac_88 (by decide) cl_X12 rfl rfl (Nat.le_of_ble_eq_true rfl) (Nat.le_of_ble_eq_true rfl) ⟨Nat.le_refl _, Nat.le_refl _⟩ rfl (w.mono (fun r2 σ1 w => ?_))
  show XX g true (d + 1) P_X12_reads 8 [(2, 88), (9, 0)] [(0, r2)] 136 σ1 136 Q
  refine E_bipush 10 dX12_reads_8 (by decide) rfl ?_
  refine E_icmp_eq 13 26 dX12_reads_10 rfl rfl (fun h => ?_) (fun h => ?_)
  · have w := w.1 h
    refine E_aload_n 27 dX12_reads_26 rfl (ac_88.bnd) rfl ?_
    refine E_aload_n 28 dX12_reads_27 rfl (ac_88.bnd) rfl ?_
    refine E_get 20 31 dX12_reads_28 fl_X12_199 ac_88 rfl (by decide) rfl rfl ?_
    refine E_iconst 32 dX12_reads_31 (by decide) rfl ?_
    refine E_iadd 33 dX12_reads_32 rfl ?_
    refine E_putI 20 36 dX12_reads_33 fl_X12_199 ac_88 rfl (by decide) (Or.inl rfl) rfl rfl ?_
    refine E_goto 0 dX12_reads_36 rfl ?_
    with_reducible exact w
  · have w := w.2 h
    refine E_aload_n 14 dX12_reads_13 rfl (ac_88.bnd) rfl ?_
    refine E_aload_n 15 dX12_reads_14 rfl (ac_88.bnd) rfl ?_
    refine E_get 20 18 dX12_reads_15 fl_X12_199 ac_88 rfl (by decide) rfl rfl ?_
    refine E_callV (as := [(0, σ1 88 20)]) 21 dX12_reads_18 cf_X12_raw mw_1411 mw_1413 mw_45 ac_88 (by decide) cl_X12 rfl rfl (Nat.le_of_ble_eq_true rfl) (Nat.le_of_ble_eq_true rfl) ⟨Nat.le_refl _, Nat.le_refl _⟩ rfl (w.mono (fun r4 σ3 w => ?_))
    show XX g true (d + 1) P_X12_reads 21 [(2, 88), (9, 0)] [(0, r4)] 136 σ3 136 Q
    refine E_bipush 23 dX12_reads_21 (by decide) rfl ?_
    refine E_icmp_ne 26 39 dX12_reads_23 rfl rfl (fun h => ?_) (fun h => ?_)
    · have w := w.1 h
      refine E_aload_n 40 dX12_reads_39 rfl (ac_88.bnd) rfl ?_
      refine E_aload_n 41 dX12_reads_40 rfl (ac_88.bnd) rfl ?_
      refine E_get 20 44 dX12_reads_41 fl_X12_199 ac_88 rfl (by decide) rfl rfl ?_
      refine E_putI 21 47 dX12_reads_44 fl_X12_205 ac_88 rfl (by decide) (Or.inl rfl) rfl rfl ?_
      refine E_aload_n 48 dX12_reads_47 rfl (ac_88.bnd) rfl ?_
      refine E_iconst 49 dX12_reads_48 (by decide) rfl ?_
      refine E_putI 22 52 dX12_reads_49 fl_X12_208 ac_88 rfl (by decide) (Or.inl rfl) rfl rfl ?_
      refine E_aload_n 53 dX12_reads_52 rfl (ac_88.bnd) rfl ?_
      refine E_aload_n 54 dX12_reads_53 rfl (ac_88.bnd) rfl ?_
      refine E_get 20 57 dX12_reads_54 fl_X12_199 ac_88 rfl (by decide) rfl rfl ?_
      refine E_conv ((su_ne (Or.inr (by decide))).trans (su_ne (Or.inr (by decide)))) ?_
      refine E_callV (as := [(0, σ3 88 20)]) 60 dX12_reads_57 cf_X12_raw mw_1411 mw_1413 mw_45 ac_88 (by decide) cl_X12 rfl rfl (Nat.le_of_ble_eq_true rfl) (Nat.le_of_ble_eq_true rfl) ⟨Nat.le_refl _, Nat.le_refl _⟩ rfl (w.mono (fun r6 σ5 w => ?_))
      show XX g true (d + 1) P_X12_reads 60 [(2, 88), (9, 0)] [(0, r6)] 136 σ5 136 Q
      refine E_istore_n (ls' := [(2, 88), (0, r6)]) 61 dX12_reads_60 (by decide) rfl rfl ?_
      refine E_iload_n 62 dX12_reads_61 rfl rfl ?_
      refine E_iconst 63 dX12_reads_62 (by decide) rfl ?_
      refine E_icmp_ne 66 72 dX12_reads_63 rfl rfl (fun h => ?_) (fun h => ?_)
      · have w := w.1 h
        refine E_aload_n 73 dX12_reads_72 rfl (ac_88.bnd) rfl ?_
        refine E_aload_n 74 dX12_reads_73 rfl (ac_88.bnd) rfl ?_
        refine E_get 20 77 dX12_reads_74 fl_X12_199 ac_88 rfl (by decide) rfl rfl ?_
        refine E_iconst 78 dX12_reads_77 (by decide) rfl ?_
        refine E_iadd 79 dX12_reads_78 rfl ?_
        refine E_putI 20 82 dX12_reads_79 fl_X12_199 ac_88 rfl (by decide) (Or.inl rfl) rfl rfl ?_
        refine E_aload_n 83 dX12_reads_82 rfl (ac_88.bnd) rfl ?_
        refine E_iload_n 84 dX12_reads_83 rfl rfl ?_
        refine E_putI 23 87 dX12_reads_84 fl_X12_211 ac_88 rfl (by decide) (Or.inl rfl) rfl rfl ?_
        refine E_aload_n 88 dX12_reads_87 rfl (ac_88.bnd) rfl ?_
        refine E_iload_n 89 dX12_reads_88 rfl rfl ?_
        refine E_callV (as := [(0, r6)]) 92 dX12_reads_89 cf_X12_isLetter mw_1415 mw_1417 mw_46 ac_88 (by decide) cl_X12 rfl rfl (Nat.le_of_ble_eq_true rfl) (Nat.le_of_ble_eq_true rfl) ⟨Nat.le_refl _, Nat.le_refl _⟩ rfl (w.mono (fun r8 σ7 w => ?_))
        show XX g true (d + 1) P_X12_reads 92 [(2, 88), (0, r6)] [(0, r8)] 136 σ7 136 Q
        refine E_if_eq 95 155 dX12_reads_92 rfl rfl (fun h => ?_) (fun h => ?_)
        · have w := w.1 h
          refine E_aload_n 156 dX12_reads_155 rfl (ac_88.bnd) rfl ?_
          refine E_iload_n 157 dX12_reads_156 rfl rfl ?_
          refine E_callV (as := [(0, r6)]) 160 dX12_reads_157 cf_X12_isDigit mw_1423 mw_1425 mw_48 ac_88 (by decide) cl_X12 rfl rfl (Nat.le_of_ble_eq_true rfl) (Nat.le_of_ble_eq_true rfl) ⟨Nat.le_refl _, Nat.le_refl _⟩ rfl (w.mono (fun r10 σ9 w => ?_))
          show XX g true (d + 1) P_X12_reads 160 [(2, 88), (0, r6)] [(0, r10)] 136 σ9 136 Q
          refine E_if_eq 163 260 dX12_reads_160 rfl rfl (fun h => ?_) (fun h => ?_)
          · have w := w.1 h
            refine E_aload_n 261 dX12_reads_260 rfl (ac_88.bnd) rfl ?_
            refine E_iload_n 262 dX12_reads_261 rfl rfl ?_
            refine E_callV (as := [(0, r6)]) 265 dX12_reads_262 cf_X12_isMarkSign mw_1427 mw_1429 mw_49 ac_88 (by decide) cl_X12 rfl rfl (Nat.le_of_ble_eq_true rfl) (Nat.le_of_ble_eq_true rfl) ⟨Nat.le_refl _, Nat.le_refl _⟩ rfl (w.mono (fun r12 σ11 w => ?_))
            show XX g true (d + 1) P_X12_reads 265 [(2, 88), (0, r6)] [(0, r12)] 136 σ11 136 Q
            refine E_if_eq 268 273 dX12_reads_265 rfl rfl (fun h => ?_) (fun h => ?_)
            · have w := w.1 h
              exact E_vret dX12_reads_273 rfl rfl w
            · have w := w.2 h
              refine E_aload_n 269 dX12_reads_268 rfl (ac_88.bnd) rfl ?_
              refine E_iconst 270 dX12_reads_269 (by decide) rfl ?_
              refine E_putI 22 273 dX12_reads_270 fl_X12_208 ac_88 rfl (by decide) (Or.inl rfl) rfl rfl ?_
              exact E_vret dX12_reads_273 rfl rfl w
          · have w := w.2 h
            refine E_aload_n 164 dX12_reads_163 rfl (ac_88.bnd) rfl ?_
            refine E_iload_n 165 dX12_reads_164 rfl rfl ?_
            refine E_bipush 167 dX12_reads_165 (by decide) rfl ?_
            refine E_isub 168 dX12_reads_167 rfl ?_
            refine E_putI 23 171 dX12_reads_168 fl_X12_211 ac_88 rfl (by decide) (Or.inl rfl) rfl rfl ?_
            refine XX.fg [1] [(2, 88), (9, 0)] rfl ?_
            with_reducible exact w
        · have w := w.2 h
          refine XX.fg [1] [(2, 88), (9, 0)] rfl ?_
          with_reducible exact w
      · have w := w.2 h
        refine E_aload_n 67 dX12_reads_66 rfl (ac_88.bnd) rfl ?_
        refine E_iconst 68 dX12_reads_67 (by decide) rfl ?_
        refine E_putI 22 71 dX12_reads_68 fl_X12_208 ac_88 rfl (by decide) (Or.inl rfl) rfl rfl ?_
        exact E_vret dX12_reads_71 rfl rfl w
    · have w := w.2 h
      refine E_aload_n 27 dX12_reads_26 rfl (ac_88.bnd) rfl ?_
      refine E_aload_n 28 dX12_reads_27 rfl (ac_88.bnd) rfl ?_
      refine E_get 20 31 dX12_reads_28 fl_X12_199 ac_88 rfl (by decide) rfl rfl ?_
      refine E_iconst 32 dX12_reads_31 (by decide) rfl ?_
      refine E_iadd 33 dX12_reads_32 rfl ?_
      refine E_putI 20 36 dX12_reads_33 fl_X12_199 ac_88 rfl (by decide) (Or.inl rfl) rfl rfl ?_
      refine E_goto 0 dX12_reads_36 rfl ?_
      with_reducible exact w
theorem B_X12_reads_171 {g : PG} {d : Nat} {σ : PS} {Q : Int → PS → Prop}  (w : XX g true d P_X12_raw 0 [(2, 88), (0, σ 88 20)] [] 136 σ 136 (fun r2 σ1 => XX g true d P_X12_isDigit 0 [(2, 88), (0, r2)] [] 136 σ1 136 (fun r4 σ3 => ((r4 = 0 → ((5 ≤ w32 ((σ3 88 20) - (σ3 88 21)) → Q 0 σ3) ∧ (w32 ((σ3 88 20) - (σ3 88 21)) < 5 → Q 0 (su σ3 88 22 3)))) ∧ (r4 ≠ 0 → ((10000 ≤ σ3 88 23 → (XX g true (d + 1) P_X12_reads 171 [(2, 88), (9, 0)] [] 136 (su (su σ3 88 23 (σ3 88 23)) 88 20 (w32 ((σ3 88 20) + 1))) 136 Q)) ∧ (σ3 88 23 < 10000 → XX g true d P_X12_raw 0 [(2, 88), (0, σ3 88 20)] [] 136 σ3 136 (fun r6 σ5 => (XX g true (d + 1) P_X12_reads 171 [(2, 88), (9, 0)] [] 136 (su (su σ5 88 23 (w32 ((w32 ((w32 (10 * (σ3 88 23))) + r6)) - 48))) 88 20 (w32 ((σ5 88 20) + 1))) 136 Q))))))))) : XX g true (d + 1) P_X12_reads 171 [(2, 88), (9, 0)] [] 136 σ 136 Q := by
  refine E_aload_n 172 dX12_reads_171 rfl (ac_88.bnd) rfl ?_
  refine E_aload_n 173 dX12_reads_172 rfl (ac_88.bnd) rfl ?_
  refine E_aload_n 174 dX12_reads_173 rfl (ac_88.bnd) rfl ?_
  refine E_get 20 177 dX12_reads_174 fl_X12_199 ac_88 rfl (by decide) rfl rfl ?_
  refine E_callV (as := [(0, σ 88 20)]) 180 dX12_reads_177 cf_X12_raw mw_1411 mw_1413 mw_45 ac_88 (by decide) cl_X12 rfl rfl (Nat.le_of_ble_eq_true rfl) (Nat.le_of_ble_eq_true rfl) ⟨Nat.le_refl _, Nat.le_refl _⟩ rfl (w.mono (fun r2 σ1 w => ?_))
  show XX g true (d + 1) P_X12_reads 180 [(2, 88), (9, 0)] [(0, r2), (2, 88)] 136 σ1 136 Q
  refine E_callV (as := [(0, r2)]) 183 dX12_reads_180 cf_X12_isDigit mw_1423 mw_1425 mw_48 ac_88 (by decide) cl_X12 rfl rfl (Nat.le_of_ble_eq_true rfl) (Nat.le_of_ble_eq_true rfl) ⟨Nat.le_refl _, Nat.le_refl _⟩ rfl (w.mono (fun r4 σ3 w => ?_))
  show XX g true (d + 1) P_X12_reads 183 [(2, 88), (9, 0)] [(0, r4)] 136 σ3 136 Q
  refine E_if_eq 186 239 dX12_reads_183 rfl rfl (fun h => ?_) (fun h => ?_)
  · have w := w.1 h
    refine E_aload_n 240 dX12_reads_239 rfl (ac_88.bnd) rfl ?_
    refine E_get 20 243 dX12_reads_240 fl_X12_199 ac_88 rfl (by decide) rfl rfl ?_
    refine E_aload_n 244 dX12_reads_243 rfl (ac_88.bnd) rfl ?_
    refine E_get 21 247 dX12_reads_244 fl_X12_205 ac_88 rfl (by decide) rfl rfl ?_
    refine E_isub 248 dX12_reads_247 rfl ?_
    refine E_iconst 249 dX12_reads_248 (by decide) rfl ?_
    refine E_icmp_ge 252 273 dX12_reads_249 rfl rfl (fun h => ?_) (fun h => ?_)
    · have w := w.1 h
      exact E_vret dX12_reads_273 rfl rfl w
    · have w := w.2 h
      refine E_aload_n 253 dX12_reads_252 rfl (ac_88.bnd) rfl ?_
      refine E_iconst 254 dX12_reads_253 (by decide) rfl ?_
      refine E_putI 22 257 dX12_reads_254 fl_X12_208 ac_88 rfl (by decide) (Or.inl rfl) rfl rfl ?_
      refine E_goto 273 dX12_reads_257 rfl ?_
      exact E_vret dX12_reads_273 rfl rfl w
  · have w := w.2 h
    refine E_aload_n 187 dX12_reads_186 rfl (ac_88.bnd) rfl ?_
    refine E_aload_n 188 dX12_reads_187 rfl (ac_88.bnd) rfl ?_
    refine E_get 23 191 dX12_reads_188 fl_X12_211 ac_88 rfl (by decide) rfl rfl ?_
    refine E_sipush 194 dX12_reads_191 (by decide) rfl ?_
    refine E_icmp_ge 197 219 dX12_reads_194 rfl rfl (fun h => ?_) (fun h => ?_)
    · have w := w.1 h
      refine E_aload_n 220 dX12_reads_219 rfl (ac_88.bnd) rfl ?_
      refine E_get 23 223 dX12_reads_220 fl_X12_211 ac_88 rfl (by decide) rfl rfl ?_
      refine E_putI 23 226 dX12_reads_223 fl_X12_211 ac_88 rfl (by decide) (Or.inl rfl) rfl rfl ?_
      refine E_aload_n 227 dX12_reads_226 rfl (ac_88.bnd) rfl ?_
      refine E_aload_n 228 dX12_reads_227 rfl (ac_88.bnd) rfl ?_
      refine E_get 20 231 dX12_reads_228 fl_X12_199 ac_88 rfl (by decide) rfl rfl ?_
      refine E_conv (su_ne (Or.inr (by decide))) ?_
      refine E_iconst 232 dX12_reads_231 (by decide) rfl ?_
      refine E_iadd 233 dX12_reads_232 rfl ?_
      refine E_putI 20 236 dX12_reads_233 fl_X12_199 ac_88 rfl (by decide) (Or.inl rfl) rfl rfl ?_
      refine E_goto 171 dX12_reads_236 rfl ?_
      with_reducible exact w
    · have w := w.2 h
      refine E_bipush 199 dX12_reads_197 (by decide) rfl ?_
      refine E_aload_n 200 dX12_reads_199 rfl (ac_88.bnd) rfl ?_
      refine E_get 23 203 dX12_reads_200 fl_X12_211 ac_88 rfl (by decide) rfl rfl ?_
      refine E_imul 204 dX12_reads_203 rfl ?_
      refine E_aload_n 205 dX12_reads_204 rfl (ac_88.bnd) rfl ?_
      refine E_aload_n 206 dX12_reads_205 rfl (ac_88.bnd) rfl ?_
      refine E_get 20 209 dX12_reads_206 fl_X12_199 ac_88 rfl (by decide) rfl rfl ?_
      refine E_callV (as := [(0, σ3 88 20)]) 212 dX12_reads_209 cf_X12_raw mw_1411 mw_1413 mw_45 ac_88 (by decide) cl_X12 rfl rfl (Nat.le_of_ble_eq_true rfl) (Nat.le_of_ble_eq_true rfl) ⟨Nat.le_refl _, Nat.le_refl _⟩ rfl (w.mono (fun r6 σ5 w => ?_))
      show XX g true (d + 1) P_X12_reads 212 [(2, 88), (9, 0)] [(0, r6), (0, w32 (10 * (σ3 88 23))), (2, 88)] 136 σ5 136 Q
      refine E_iadd 213 dX12_reads_212 rfl ?_
      refine E_bipush 215 dX12_reads_213 (by decide) rfl ?_
      refine E_isub 216 dX12_reads_215 rfl ?_
      refine E_goto 223 dX12_reads_216 rfl ?_
      refine E_putI 23 226 dX12_reads_223 fl_X12_211 ac_88 rfl (by decide) (Or.inl rfl) rfl rfl ?_
      refine E_aload_n 227 dX12_reads_226 rfl (ac_88.bnd) rfl ?_
      refine E_aload_n 228 dX12_reads_227 rfl (ac_88.bnd) rfl ?_
      refine E_get 20 231 dX12_reads_228 fl_X12_199 ac_88 rfl (by decide) rfl rfl ?_
      refine E_conv (su_ne (Or.inr (by decide))) ?_
      refine E_iconst 232 dX12_reads_231 (by decide) rfl ?_
      refine E_iadd 233 dX12_reads_232 rfl ?_
      refine E_putI 20 236 dX12_reads_233 fl_X12_199 ac_88 rfl (by decide) (Or.inl rfl) rfl rfl ?_
      refine E_goto 171 dX12_reads_236 rfl ?_
      with_reducible exact w
theorem B_X12_reads_95 {g : PG} {d : Nat} {σ : PS} {Q : Int → PS → Prop}  (w : XX g true d P_X12_raw 0 [(2, 88), (0, σ 88 20)] [] 136 σ 136 (fun r2 σ1 => XX g true d P_X12_isLetter 0 [(2, 88), (0, r2)] [] 136 σ1 136 (fun r4 σ3 => ((r4 = 0 → XX g true d P_X12_wordAt 0 [(2, 88), (0, σ3 88 21), (0, σ3 88 20), (9, 0), (9, 0), (9, 0)] [] 136 σ3 136 (fun r6 σ5 => ((r6 = (-1) → Q 0 (su σ5 88 23 r6)) ∧ (r6 ≠ (-1) → Q 0 (su (su σ5 88 23 r6) 88 22 2))))) ∧ (r4 ≠ 0 → (XX g true (d + 1) P_X12_reads 95 [(2, 88), (9, 0)] [] 136 (su σ3 88 20 (w32 ((σ3 88 20) + 1))) 136 Q)))))) : XX g true (d + 1) P_X12_reads 95 [(2, 88), (9, 0)] [] 136 σ 136 Q := by
  refine E_aload_n 96 dX12_reads_95 rfl (ac_88.bnd) rfl ?_
  refine E_aload_n 97 dX12_reads_96 rfl (ac_88.bnd) rfl ?_
  refine E_aload_n 98 dX12_reads_97 rfl (ac_88.bnd) rfl ?_
  refine E_get 20 101 dX12_reads_98 fl_X12_199 ac_88 rfl (by decide) rfl rfl ?_
  refine E_callV (as := [(0, σ 88 20)]) 104 dX12_reads_101 cf_X12_raw mw_1411 mw_1413 mw_45 ac_88 (by decide) cl_X12 rfl rfl (Nat.le_of_ble_eq_true rfl) (Nat.le_of_ble_eq_true rfl) ⟨Nat.le_refl _, Nat.le_refl _⟩ rfl (w.mono (fun r2 σ1 w => ?_))
  show XX g true (d + 1) P_X12_reads 104 [(2, 88), (9, 0)] [(0, r2), (2, 88)] 136 σ1 136 Q
  refine E_callV (as := [(0, r2)]) 107 dX12_reads_104 cf_X12_isLetter mw_1415 mw_1417 mw_46 ac_88 (by decide) cl_X12 rfl rfl (Nat.le_of_ble_eq_true rfl) (Nat.le_of_ble_eq_true rfl) ⟨Nat.le_refl _, Nat.le_refl _⟩ rfl (w.mono (fun r4 σ3 w => ?_))
  show XX g true (d + 1) P_X12_reads 107 [(2, 88), (9, 0)] [(0, r4)] 136 σ3 136 Q
  refine E_if_eq 110 123 dX12_reads_107 rfl rfl (fun h => ?_) (fun h => ?_)
  · have w := w.1 h
    refine E_aload_n 124 dX12_reads_123 rfl (ac_88.bnd) rfl ?_
    refine E_aload_n 125 dX12_reads_124 rfl (ac_88.bnd) rfl ?_
    refine E_aload_n 126 dX12_reads_125 rfl (ac_88.bnd) rfl ?_
    refine E_get 21 129 dX12_reads_126 fl_X12_205 ac_88 rfl (by decide) rfl rfl ?_
    refine E_aload_n 130 dX12_reads_129 rfl (ac_88.bnd) rfl ?_
    refine E_get 20 133 dX12_reads_130 fl_X12_199 ac_88 rfl (by decide) rfl rfl ?_
    refine E_callV (as := [(0, σ3 88 21), (0, σ3 88 20)]) 136 dX12_reads_133 cf_X12_wordAt mw_1419 mw_1421 mw_47 ac_88 (by decide) cl_X12 rfl rfl (Nat.le_of_ble_eq_true rfl) (Nat.le_of_ble_eq_true rfl) ⟨Nat.le_refl _, Nat.le_refl _⟩ rfl (w.mono (fun r6 σ5 w => ?_))
    show XX g true (d + 1) P_X12_reads 136 [(2, 88), (9, 0)] [(0, r6), (2, 88)] 136 σ5 136 Q
    refine E_putI 23 139 dX12_reads_136 fl_X12_211 ac_88 rfl (by decide) (Or.inl rfl) rfl rfl ?_
    refine E_aload_n 140 dX12_reads_139 rfl (ac_88.bnd) rfl ?_
    refine E_get 23 143 dX12_reads_140 fl_X12_211 ac_88 rfl (by decide) rfl rfl ?_
    refine E_conv (su_eq) ?_
    refine E_iconst 144 dX12_reads_143 (by decide) rfl ?_
    refine E_icmp_eq 147 273 dX12_reads_144 rfl rfl (fun h => ?_) (fun h => ?_)
    · have w := w.1 h
      exact E_vret dX12_reads_273 rfl rfl w
    · have w := w.2 h
      refine E_aload_n 148 dX12_reads_147 rfl (ac_88.bnd) rfl ?_
      refine E_iconst 149 dX12_reads_148 (by decide) rfl ?_
      refine E_putI 22 152 dX12_reads_149 fl_X12_208 ac_88 rfl (by decide) (Or.inl rfl) rfl rfl ?_
      refine E_goto 273 dX12_reads_152 rfl ?_
      exact E_vret dX12_reads_273 rfl rfl w
  · have w := w.2 h
    refine E_aload_n 111 dX12_reads_110 rfl (ac_88.bnd) rfl ?_
    refine E_aload_n 112 dX12_reads_111 rfl (ac_88.bnd) rfl ?_
    refine E_get 20 115 dX12_reads_112 fl_X12_199 ac_88 rfl (by decide) rfl rfl ?_
    refine E_iconst 116 dX12_reads_115 (by decide) rfl ?_
    refine E_iadd 117 dX12_reads_116 rfl ?_
    refine E_putI 20 120 dX12_reads_117 fl_X12_199 ac_88 rfl (by decide) (Or.inl rfl) rfl rfl ?_
    refine E_goto 95 dX12_reads_120 rfl ?_
    with_reducible exact w
theorem B_X12_errs_0 {g : PG} {d : Nat} {σ : PS} {Q : Int → PS → Prop} {x1 : Int}  (w : Q (-1) (su (su σ 88 36 x1) 88 37 (σ 88 21))) : XX g true d P_X12_errs 0 [(2, 88), (0, x1)] [] 136 σ 136 Q := by
  refine E_aload_n 1 dX12_errs_0 rfl (ac_88.bnd) rfl ?_
  refine E_iload_n 2 dX12_errs_1 rfl rfl ?_
  refine E_putI 36 5 dX12_errs_2 fl_X12_227 ac_88 rfl (by decide) (Or.inl rfl) rfl rfl ?_
  refine E_aload_n 6 dX12_errs_5 rfl (ac_88.bnd) rfl ?_
  refine E_aload_n 7 dX12_errs_6 rfl (ac_88.bnd) rfl ?_
  refine E_get 21 10 dX12_errs_7 fl_X12_205 ac_88 rfl (by decide) rfl rfl ?_
  refine E_conv (su_ne (Or.inr (by decide))) ?_
  refine E_putI 37 13 dX12_errs_10 fl_X12_230 ac_88 rfl (by decide) (Or.inl rfl) rfl rfl ?_
  refine E_iconst 14 dX12_errs_13 (by decide) rfl ?_
  exact E_iret dX12_errs_14 rfl rfl w
theorem B_X12_isWord_0 {g : PG} {d : Nat} {σ : PS} {Q : Int → PS → Prop} {x1 : Int}  (w : ((σ 88 22 ≠ 2 → Q 0 σ) ∧ (σ 88 22 = 2 → ((σ 88 23 ≠ x1 → Q 0 σ) ∧ (σ 88 23 = x1 → Q 1 σ))))) : XX g true d P_X12_isWord 0 [(2, 88), (0, x1)] [] 136 σ 136 Q := by
  refine E_aload_n 1 dX12_isWord_0 rfl (ac_88.bnd) rfl ?_
  refine E_get 22 4 dX12_isWord_1 fl_X12_208 ac_88 rfl (by decide) rfl rfl ?_
  refine E_iconst 5 dX12_isWord_4 (by decide) rfl ?_
  refine E_icmp_ne 8 20 dX12_isWord_5 rfl rfl (fun h => ?_) (fun h => ?_)
  · have w := w.1 h
    refine E_iconst 21 dX12_isWord_20 (by decide) rfl ?_
    exact E_zret dX12_isWord_21 rfl rfl (Or.inl rfl) w
  · have w := w.2 h
    refine E_aload_n 9 dX12_isWord_8 rfl (ac_88.bnd) rfl ?_
    refine E_get 23 12 dX12_isWord_9 fl_X12_211 ac_88 rfl (by decide) rfl rfl ?_
    refine E_iload_n 13 dX12_isWord_12 rfl rfl ?_
    refine E_icmp_ne 16 20 dX12_isWord_13 rfl rfl (fun h => ?_) (fun h => ?_)
    · have w := w.1 h
      refine E_iconst 21 dX12_isWord_20 (by decide) rfl ?_
      exact E_zret dX12_isWord_21 rfl rfl (Or.inl rfl) w
    · have w := w.2 h
      refine E_iconst 17 dX12_isWord_16 (by decide) rfl ?_
      refine E_goto 21 dX12_isWord_17 rfl ?_
      exact E_zret dX12_isWord_21 rfl rfl (Or.inr rfl) w
theorem B_X12_isSign_0 {g : PG} {d : Nat} {σ : PS} {Q : Int → PS → Prop} {x1 : Int}  (w : ((σ 88 22 ≠ 4 → Q 0 σ) ∧ (σ 88 22 = 4 → ((σ 88 23 ≠ x1 → Q 0 σ) ∧ (σ 88 23 = x1 → Q 1 σ))))) : XX g true d P_X12_isSign 0 [(2, 88), (0, x1)] [] 136 σ 136 Q := by
  refine E_aload_n 1 dX12_isSign_0 rfl (ac_88.bnd) rfl ?_
  refine E_get 22 4 dX12_isSign_1 fl_X12_208 ac_88 rfl (by decide) rfl rfl ?_
  refine E_iconst 5 dX12_isSign_4 (by decide) rfl ?_
  refine E_icmp_ne 8 20 dX12_isSign_5 rfl rfl (fun h => ?_) (fun h => ?_)
  · have w := w.1 h
    refine E_iconst 21 dX12_isSign_20 (by decide) rfl ?_
    exact E_zret dX12_isSign_21 rfl rfl (Or.inl rfl) w
  · have w := w.2 h
    refine E_aload_n 9 dX12_isSign_8 rfl (ac_88.bnd) rfl ?_
    refine E_get 23 12 dX12_isSign_9 fl_X12_211 ac_88 rfl (by decide) rfl rfl ?_
    refine E_iload_n 13 dX12_isSign_12 rfl rfl ?_
    refine E_icmp_ne 16 20 dX12_isSign_13 rfl rfl (fun h => ?_) (fun h => ?_)
    · have w := w.1 h
      refine E_iconst 21 dX12_isSign_20 (by decide) rfl ?_
      exact E_zret dX12_isSign_21 rfl rfl (Or.inl rfl) w
    · have w := w.2 h
      refine E_iconst 17 dX12_isSign_16 (by decide) rfl ?_
      refine E_goto 21 dX12_isSign_17 rfl ?_
      exact E_zret dX12_isSign_21 rfl rfl (Or.inr rfl) w
theorem B_X12_emits_0 {g : PG} {d : Nat} {σ : PS} {Q : Int → PS → Prop} {x1 x2 : Int}  (w : (0 ≤ w32 (1500 + (σ 88 32)) ∧ w32 (1500 + (σ 88 32)) < 2000) ∧ Q 0 (su (su (su σ 104 (w32 (1500 + (σ 88 32))) x1) 105 (w32 (1500 + (σ 88 32))) x2) 88 32 (w32 ((σ 88 32) + 1)))) : XX g true d P_X12_emits 0 [(2, 88), (0, x1), (0, x2)] [] 136 σ 136 Q := by
  refine E_aload_n 1 dX12_emits_0 rfl (ac_88.bnd) rfl ?_
  refine E_getL 4 dX12_emits_1 fl_X12_62 ac_88 rfl (by decide) lay_88_29 rfl ?_
  refine E_sipush 7 dX12_emits_4 (by decide) rfl ?_
  refine E_aload_n 8 dX12_emits_7 rfl (ac_88.bnd) rfl ?_
  refine E_get 32 11 dX12_emits_8 fl_X12_233 ac_88 rfl (by decide) rfl rfl ?_
  refine E_iadd 12 dX12_emits_11 rfl ?_
  refine E_iload_n 13 dX12_emits_12 rfl rfl ?_
  obtain ⟨c1, w⟩ := w
  refine E_iast 14 dX12_emits_13 ac_104 c1 rfl ?_
  refine E_aload_n 15 dX12_emits_14 rfl (ac_88.bnd) rfl ?_
  refine E_getL 18 dX12_emits_15 fl_X12_65 ac_88 rfl (by decide) lay_88_30 rfl ?_
  refine E_sipush 21 dX12_emits_18 (by decide) rfl ?_
  refine E_aload_n 22 dX12_emits_21 rfl (ac_88.bnd) rfl ?_
  refine E_get 32 25 dX12_emits_22 fl_X12_233 ac_88 rfl (by decide) rfl rfl ?_
  refine E_conv (su_ne (Or.inl (by decide))) ?_
  refine E_iadd 26 dX12_emits_25 rfl ?_
  refine E_iload_n 27 dX12_emits_26 rfl rfl ?_
  refine E_iast 28 dX12_emits_27 ac_105 c1 rfl ?_
  refine E_aload_n 29 dX12_emits_28 rfl (ac_88.bnd) rfl ?_
  refine E_aload_n 30 dX12_emits_29 rfl (ac_88.bnd) rfl ?_
  refine E_get 32 33 dX12_emits_30 fl_X12_233 ac_88 rfl (by decide) rfl rfl ?_
  refine E_conv ((su_ne (Or.inl (by decide))).trans (su_ne (Or.inl (by decide)))) ?_
  refine E_iconst 34 dX12_emits_33 (by decide) rfl ?_
  refine E_iadd 35 dX12_emits_34 rfl ?_
  refine E_putI 32 38 dX12_emits_35 fl_X12_233 ac_88 rfl (by decide) (Or.inl rfl) rfl rfl ?_
  exact E_vret dX12_emits_38 rfl rfl w
theorem B_X12_isAskedWord_0 {g : PG} {d : Nat} {σ : PS} {Q : Int → PS → Prop}  (w : ((σ 88 22 = 2 → ((σ 88 31 = 0 → ((σ 88 23 = 6 → Q 1 σ) ∧ (σ 88 23 ≠ 6 → XX g true d P_X12_isIn 0 [(2, 88), (0, σ 88 23), (0, 14), (0, 18)] [] 136 σ 136 (fun r2 σ1 => ((r2 ≠ 0 → Q 1 σ1) ∧ (r2 = 0 → ((σ1 88 23 = 20 → Q 1 σ1) ∧ (σ1 88 23 ≠ 20 → ((σ1 88 23 < 22 → Q 0 σ1) ∧ (22 ≤ σ1 88 23 → Q 1 σ1)))))))))) ∧ (σ 88 31 ≠ 0 → XX g true d P_X12_isIn 0 [(2, 88), (0, σ 88 23), (0, 13), (0, 21)] [] 136 σ 136 (fun r4 σ3 => (r4 = 0 ∨ r4 = 1) ∧ Q r4 σ3)))) ∧ (σ 88 22 ≠ 2 → Q 0 σ))) : XX g true (d + 1) P_X12_isAskedWord 0 [(2, 88)] [] 136 σ 136 Q := by
  refine E_aload_n 1 dX12_isAskedWord_0 rfl (ac_88.bnd) rfl ?_
  refine E_get 22 4 dX12_isAskedWord_1 fl_X12_208 ac_88 rfl (by decide) rfl rfl ?_
  refine E_iconst 5 dX12_isAskedWord_4 (by decide) rfl ?_
  refine E_icmp_eq 8 10 dX12_isAskedWord_5 rfl rfl (fun h => ?_) (fun h => ?_)
  · have w := w.1 h
    refine E_aload_n 11 dX12_isAskedWord_10 rfl (ac_88.bnd) rfl ?_
    refine E_get 31 14 dX12_isAskedWord_11 fl_X12_236 ac_88 rfl (by decide) rfl rfl ?_
    refine E_if_eq 17 30 dX12_isAskedWord_14 rfl rfl (fun h => ?_) (fun h => ?_)
    · have w := w.1 h
      refine E_aload_n 31 dX12_isAskedWord_30 rfl (ac_88.bnd) rfl ?_
      refine E_get 23 34 dX12_isAskedWord_31 fl_X12_211 ac_88 rfl (by decide) rfl rfl ?_
      refine E_bipush 36 dX12_isAskedWord_34 (by decide) rfl ?_
      refine E_icmp_eq 39 72 dX12_isAskedWord_36 rfl rfl (fun h => ?_) (fun h => ?_)
      · have w := w.1 h
        refine E_iconst 73 dX12_isAskedWord_72 (by decide) rfl ?_
        refine E_goto 77 dX12_isAskedWord_73 rfl ?_
        exact E_zret dX12_isAskedWord_77 rfl rfl (Or.inr rfl) w
      · have w := w.2 h
        refine E_aload_n 40 dX12_isAskedWord_39 rfl (ac_88.bnd) rfl ?_
        refine E_aload_n 41 dX12_isAskedWord_40 rfl (ac_88.bnd) rfl ?_
        refine E_get 23 44 dX12_isAskedWord_41 fl_X12_211 ac_88 rfl (by decide) rfl rfl ?_
        refine E_bipush 46 dX12_isAskedWord_44 (by decide) rfl ?_
        refine E_bipush 48 dX12_isAskedWord_46 (by decide) rfl ?_
        refine E_callV (as := [(0, σ 88 23), (0, 14), (0, 18)]) 51 dX12_isAskedWord_48 cf_X12_isIn mw_1363 mw_1365 mw_39 ac_88 (by decide) cl_X12 rfl rfl (Nat.le_of_ble_eq_true rfl) (Nat.le_of_ble_eq_true rfl) ⟨Nat.le_refl _, Nat.le_refl _⟩ rfl (w.mono (fun r2 σ1 w => ?_))
        show XX g true (d + 1) P_X12_isAskedWord 51 [(2, 88)] [(0, r2)] 136 σ1 136 Q
        refine E_if_ne 54 72 dX12_isAskedWord_51 rfl rfl (fun h => ?_) (fun h => ?_)
        · have w := w.1 h
          refine E_iconst 73 dX12_isAskedWord_72 (by decide) rfl ?_
          refine E_goto 77 dX12_isAskedWord_73 rfl ?_
          exact E_zret dX12_isAskedWord_77 rfl rfl (Or.inr rfl) w
        · have w := w.2 h
          refine E_aload_n 55 dX12_isAskedWord_54 rfl (ac_88.bnd) rfl ?_
          refine E_get 23 58 dX12_isAskedWord_55 fl_X12_211 ac_88 rfl (by decide) rfl rfl ?_
          refine E_bipush 60 dX12_isAskedWord_58 (by decide) rfl ?_
          refine E_icmp_eq 63 72 dX12_isAskedWord_60 rfl rfl (fun h => ?_) (fun h => ?_)
          · have w := w.1 h
            refine E_iconst 73 dX12_isAskedWord_72 (by decide) rfl ?_
            refine E_goto 77 dX12_isAskedWord_73 rfl ?_
            exact E_zret dX12_isAskedWord_77 rfl rfl (Or.inr rfl) w
          · have w := w.2 h
            refine E_aload_n 64 dX12_isAskedWord_63 rfl (ac_88.bnd) rfl ?_
            refine E_get 23 67 dX12_isAskedWord_64 fl_X12_211 ac_88 rfl (by decide) rfl rfl ?_
            refine E_bipush 69 dX12_isAskedWord_67 (by decide) rfl ?_
            refine E_icmp_lt 72 76 dX12_isAskedWord_69 rfl rfl (fun h => ?_) (fun h => ?_)
            · have w := w.1 h
              refine E_iconst 77 dX12_isAskedWord_76 (by decide) rfl ?_
              exact E_zret dX12_isAskedWord_77 rfl rfl (Or.inl rfl) w
            · have w := w.2 h
              refine E_iconst 73 dX12_isAskedWord_72 (by decide) rfl ?_
              refine E_goto 77 dX12_isAskedWord_73 rfl ?_
              exact E_zret dX12_isAskedWord_77 rfl rfl (Or.inr rfl) w
    · have w := w.2 h
      refine E_aload_n 18 dX12_isAskedWord_17 rfl (ac_88.bnd) rfl ?_
      refine E_aload_n 19 dX12_isAskedWord_18 rfl (ac_88.bnd) rfl ?_
      refine E_get 23 22 dX12_isAskedWord_19 fl_X12_211 ac_88 rfl (by decide) rfl rfl ?_
      refine E_bipush 24 dX12_isAskedWord_22 (by decide) rfl ?_
      refine E_bipush 26 dX12_isAskedWord_24 (by decide) rfl ?_
      refine E_callV (as := [(0, σ 88 23), (0, 13), (0, 21)]) 29 dX12_isAskedWord_26 cf_X12_isIn mw_1363 mw_1365 mw_39 ac_88 (by decide) cl_X12 rfl rfl (Nat.le_of_ble_eq_true rfl) (Nat.le_of_ble_eq_true rfl) ⟨Nat.le_refl _, Nat.le_refl _⟩ rfl (w.mono (fun r4 σ3 w => ?_))
      show XX g true (d + 1) P_X12_isAskedWord 29 [(2, 88)] [(0, r4)] 136 σ3 136 Q
      obtain ⟨c5, w⟩ := w
      exact E_zret dX12_isAskedWord_29 rfl rfl c5 w
  · have w := w.2 h
    refine E_iconst 9 dX12_isAskedWord_8 (by decide) rfl ?_
    exact E_zret dX12_isAskedWord_9 rfl rfl (Or.inl rfl) w
theorem B_X12_readUnit_0 {g : PG} {d : Nat} {σ : PS} {Q : Int → PS → Prop}  (w : XX g true d P_X12_isAskedWord 0 [(2, 88)] [] 136 σ 136 (fun r2 σ1 => ((r2 ≠ 0 → ((r2 = 0 → ((r2 ≠ 0 → ((σ1 88 23 ≠ 6 → XX g true d P_X12_emits 0 [(2, 88), (0, 0), (0, w32 ((σ1 88 23) - 13))] [] 136 σ1 136 (fun _ σ3 => XX g true d P_X12_reads 0 [(2, 88), (9, 0)] [] 136 σ3 136 (fun _ σ5 => Q 0 σ5))) ∧ (σ1 88 23 = 6 → XX g true d P_X12_emits 0 [(2, 88), (0, 0), (0, 11)] [] 136 σ1 136 (fun _ σ7 => XX g true d P_X12_reads 0 [(2, 88), (9, 0)] [] 136 σ7 136 (fun _ σ9 => Q 0 σ9))))) ∧ (r2 = 0 → XX g true d P_X12_emits 0 [(2, 88), (0, 0), (0, σ1 88 23)] [] 136 σ1 136 (fun _ σ11 => XX g true d P_X12_reads 0 [(2, 88), (9, 0)] [] 136 σ11 136 (fun _ σ13 => Q 0 σ13))))) ∧ (r2 ≠ 0 → ((r2 ≠ 0 → ((σ1 88 23 ≠ 6 → XX g true d P_X12_emits 0 [(2, 88), (0, 1), (0, w32 ((σ1 88 23) - 13))] [] 136 σ1 136 (fun _ σ15 => XX g true d P_X12_reads 0 [(2, 88), (9, 0)] [] 136 σ15 136 (fun _ σ17 => Q 0 σ17))) ∧ (σ1 88 23 = 6 → XX g true d P_X12_emits 0 [(2, 88), (0, 1), (0, 11)] [] 136 σ1 136 (fun _ σ19 => XX g true d P_X12_reads 0 [(2, 88), (9, 0)] [] 136 σ19 136 (fun _ σ21 => Q 0 σ21))))) ∧ (r2 = 0 → XX g true d P_X12_emits 0 [(2, 88), (0, 1), (0, σ1 88 23)] [] 136 σ1 136 (fun _ σ23 => XX g true d P_X12_reads 0 [(2, 88), (9, 0)] [] 136 σ23 136 (fun _ σ25 => Q 0 σ25))))))) ∧ (r2 = 0 → ((σ1 88 22 = 3 → ((r2 = 0 → ((r2 ≠ 0 → ((σ1 88 23 ≠ 6 → XX g true d P_X12_emits 0 [(2, 88), (0, 0), (0, w32 ((σ1 88 23) - 13))] [] 136 σ1 136 (fun _ σ27 => XX g true d P_X12_reads 0 [(2, 88), (9, 0)] [] 136 σ27 136 (fun _ σ29 => Q 0 σ29))) ∧ (σ1 88 23 = 6 → XX g true d P_X12_emits 0 [(2, 88), (0, 0), (0, 11)] [] 136 σ1 136 (fun _ σ31 => XX g true d P_X12_reads 0 [(2, 88), (9, 0)] [] 136 σ31 136 (fun _ σ33 => Q 0 σ33))))) ∧ (r2 = 0 → XX g true d P_X12_emits 0 [(2, 88), (0, 0), (0, σ1 88 23)] [] 136 σ1 136 (fun _ σ35 => XX g true d P_X12_reads 0 [(2, 88), (9, 0)] [] 136 σ35 136 (fun _ σ37 => Q 0 σ37))))) ∧ (r2 ≠ 0 → ((r2 ≠ 0 → ((σ1 88 23 ≠ 6 → XX g true d P_X12_emits 0 [(2, 88), (0, 1), (0, w32 ((σ1 88 23) - 13))] [] 136 σ1 136 (fun _ σ39 => XX g true d P_X12_reads 0 [(2, 88), (9, 0)] [] 136 σ39 136 (fun _ σ41 => Q 0 σ41))) ∧ (σ1 88 23 = 6 → XX g true d P_X12_emits 0 [(2, 88), (0, 1), (0, 11)] [] 136 σ1 136 (fun _ σ43 => XX g true d P_X12_reads 0 [(2, 88), (9, 0)] [] 136 σ43 136 (fun _ σ45 => Q 0 σ45))))) ∧ (r2 = 0 → XX g true d P_X12_emits 0 [(2, 88), (0, 1), (0, σ1 88 23)] [] 136 σ1 136 (fun _ σ47 => XX g true d P_X12_reads 0 [(2, 88), (9, 0)] [] 136 σ47 136 (fun _ σ49 => Q 0 σ49))))))) ∧ (σ1 88 22 ≠ 3 → XX g true d P_X12_errs 0 [(2, 88), (0, 1)] [] 136 σ1 136 (fun r52 σ51 => Q r52 σ51))))))) : XX g true (d + 1) P_X12_readUnit 0 [(2, 88), (9, 0)] [] 136 σ 136 Q := by
  refine E_aload_n 1 dX12_readUnit_0 rfl (ac_88.bnd) rfl ?_
  refine E_callV (as := []) 4 dX12_readUnit_1 cf_X12_isAskedWord mw_1479 mw_1481 mw_62 ac_88 (by decide) cl_X12 rfl rfl (Nat.le_of_ble_eq_true rfl) (Nat.le_of_ble_eq_true rfl) ⟨Nat.le_refl _, Nat.le_refl _⟩ rfl (w.mono (fun r2 σ1 w => ?_))
  show XX g true (d + 1) P_X12_readUnit 4 [(2, 88), (9, 0)] [(0, r2)] 136 σ1 136 Q
  refine E_istore_n (ls' := [(2, 88), (0, r2)]) 5 dX12_readUnit_4 (by decide) rfl rfl ?_
  refine E_iload_n 6 dX12_readUnit_5 rfl rfl ?_
  refine E_if_ne 9 23 dX12_readUnit_6 rfl rfl (fun h => ?_) (fun h => ?_)
  · have w := w.1 h
    refine E_aload_n 24 dX12_readUnit_23 rfl (ac_88.bnd) rfl ?_
    refine E_iload_n 25 dX12_readUnit_24 rfl rfl ?_
    refine E_if_eq 28 32 dX12_readUnit_25 rfl rfl (fun h => ?_) (fun h => ?_)
    · have w := w.1 h
      refine E_iconst 33 dX12_readUnit_32 (by decide) rfl ?_
      refine E_iload_n 34 dX12_readUnit_33 rfl rfl ?_
      refine E_if_ne 37 44 dX12_readUnit_34 rfl rfl (fun h => ?_) (fun h => ?_)
      · have w := w.1 h
        refine E_aload_n 45 dX12_readUnit_44 rfl (ac_88.bnd) rfl ?_
        refine E_get 23 48 dX12_readUnit_45 fl_X12_211 ac_88 rfl (by decide) rfl rfl ?_
        refine E_bipush 50 dX12_readUnit_48 (by decide) rfl ?_
        refine E_icmp_ne 53 58 dX12_readUnit_50 rfl rfl (fun h => ?_) (fun h => ?_)
        · have w := w.1 h
          refine E_aload_n 59 dX12_readUnit_58 rfl (ac_88.bnd) rfl ?_
          refine E_get 23 62 dX12_readUnit_59 fl_X12_211 ac_88 rfl (by decide) rfl rfl ?_
          refine E_bipush 64 dX12_readUnit_62 (by decide) rfl ?_
          refine E_isub 65 dX12_readUnit_64 rfl ?_
          refine E_callV (as := [(0, 0), (0, w32 ((σ1 88 23) - 13))]) 68 dX12_readUnit_65 cf_X12_emits mw_1483 mw_1485 mw_63 ac_88 (by decide) cl_X12 rfl rfl (Nat.le_of_ble_eq_true rfl) (Nat.le_of_ble_eq_true rfl) ⟨Nat.le_refl _, Nat.le_refl _⟩ rfl (w.mono (fun r4 σ3 w => ?_))
          show XX g true (d + 1) P_X12_readUnit 68 [(2, 88), (0, r2)] [] 136 σ3 136 Q
          refine E_aload_n 69 dX12_readUnit_68 rfl (ac_88.bnd) rfl ?_
          refine E_callV (as := []) 72 dX12_readUnit_69 cf_X12_reads mw_1407 mw_1409 mw_44 ac_88 (by decide) cl_X12 rfl rfl (Nat.le_of_ble_eq_true rfl) (Nat.le_of_ble_eq_true rfl) ⟨Nat.le_refl _, Nat.le_refl _⟩ rfl (w.mono (fun r6 σ5 w => ?_))
          show XX g true (d + 1) P_X12_readUnit 72 [(2, 88), (0, r2)] [] 136 σ5 136 Q
          refine E_iconst 73 dX12_readUnit_72 (by decide) rfl ?_
          exact E_iret dX12_readUnit_73 rfl rfl w
        · have w := w.2 h
          refine E_bipush 55 dX12_readUnit_53 (by decide) rfl ?_
          refine E_goto 65 dX12_readUnit_55 rfl ?_
          refine E_callV (as := [(0, 0), (0, 11)]) 68 dX12_readUnit_65 cf_X12_emits mw_1483 mw_1485 mw_63 ac_88 (by decide) cl_X12 rfl rfl (Nat.le_of_ble_eq_true rfl) (Nat.le_of_ble_eq_true rfl) ⟨Nat.le_refl _, Nat.le_refl _⟩ rfl (w.mono (fun r8 σ7 w => ?_))
          show XX g true (d + 1) P_X12_readUnit 68 [(2, 88), (0, r2)] [] 136 σ7 136 Q
          refine E_aload_n 69 dX12_readUnit_68 rfl (ac_88.bnd) rfl ?_
          refine E_callV (as := []) 72 dX12_readUnit_69 cf_X12_reads mw_1407 mw_1409 mw_44 ac_88 (by decide) cl_X12 rfl rfl (Nat.le_of_ble_eq_true rfl) (Nat.le_of_ble_eq_true rfl) ⟨Nat.le_refl _, Nat.le_refl _⟩ rfl (w.mono (fun r10 σ9 w => ?_))
          show XX g true (d + 1) P_X12_readUnit 72 [(2, 88), (0, r2)] [] 136 σ9 136 Q
          refine E_iconst 73 dX12_readUnit_72 (by decide) rfl ?_
          exact E_iret dX12_readUnit_73 rfl rfl w
      · have w := w.2 h
        refine E_aload_n 38 dX12_readUnit_37 rfl (ac_88.bnd) rfl ?_
        refine E_get 23 41 dX12_readUnit_38 fl_X12_211 ac_88 rfl (by decide) rfl rfl ?_
        refine E_goto 65 dX12_readUnit_41 rfl ?_
        refine E_callV (as := [(0, 0), (0, σ1 88 23)]) 68 dX12_readUnit_65 cf_X12_emits mw_1483 mw_1485 mw_63 ac_88 (by decide) cl_X12 rfl rfl (Nat.le_of_ble_eq_true rfl) (Nat.le_of_ble_eq_true rfl) ⟨Nat.le_refl _, Nat.le_refl _⟩ rfl (w.mono (fun r12 σ11 w => ?_))
        show XX g true (d + 1) P_X12_readUnit 68 [(2, 88), (0, r2)] [] 136 σ11 136 Q
        refine E_aload_n 69 dX12_readUnit_68 rfl (ac_88.bnd) rfl ?_
        refine E_callV (as := []) 72 dX12_readUnit_69 cf_X12_reads mw_1407 mw_1409 mw_44 ac_88 (by decide) cl_X12 rfl rfl (Nat.le_of_ble_eq_true rfl) (Nat.le_of_ble_eq_true rfl) ⟨Nat.le_refl _, Nat.le_refl _⟩ rfl (w.mono (fun r14 σ13 w => ?_))
        show XX g true (d + 1) P_X12_readUnit 72 [(2, 88), (0, r2)] [] 136 σ13 136 Q
        refine E_iconst 73 dX12_readUnit_72 (by decide) rfl ?_
        exact E_iret dX12_readUnit_73 rfl rfl w
    · have w := w.2 h
      refine E_iconst 29 dX12_readUnit_28 (by decide) rfl ?_
      refine E_goto 33 dX12_readUnit_29 rfl ?_
      refine E_iload_n 34 dX12_readUnit_33 rfl rfl ?_
      refine E_if_ne 37 44 dX12_readUnit_34 rfl rfl (fun h => ?_) (fun h => ?_)
      · have w := w.1 h
        refine E_aload_n 45 dX12_readUnit_44 rfl (ac_88.bnd) rfl ?_
        refine E_get 23 48 dX12_readUnit_45 fl_X12_211 ac_88 rfl (by decide) rfl rfl ?_
        refine E_bipush 50 dX12_readUnit_48 (by decide) rfl ?_
        refine E_icmp_ne 53 58 dX12_readUnit_50 rfl rfl (fun h => ?_) (fun h => ?_)
        · have w := w.1 h
          refine E_aload_n 59 dX12_readUnit_58 rfl (ac_88.bnd) rfl ?_
          refine E_get 23 62 dX12_readUnit_59 fl_X12_211 ac_88 rfl (by decide) rfl rfl ?_
          refine E_bipush 64 dX12_readUnit_62 (by decide) rfl ?_
          refine E_isub 65 dX12_readUnit_64 rfl ?_
          refine E_callV (as := [(0, 1), (0, w32 ((σ1 88 23) - 13))]) 68 dX12_readUnit_65 cf_X12_emits mw_1483 mw_1485 mw_63 ac_88 (by decide) cl_X12 rfl rfl (Nat.le_of_ble_eq_true rfl) (Nat.le_of_ble_eq_true rfl) ⟨Nat.le_refl _, Nat.le_refl _⟩ rfl (w.mono (fun r16 σ15 w => ?_))
          show XX g true (d + 1) P_X12_readUnit 68 [(2, 88), (0, r2)] [] 136 σ15 136 Q
          refine E_aload_n 69 dX12_readUnit_68 rfl (ac_88.bnd) rfl ?_
          refine E_callV (as := []) 72 dX12_readUnit_69 cf_X12_reads mw_1407 mw_1409 mw_44 ac_88 (by decide) cl_X12 rfl rfl (Nat.le_of_ble_eq_true rfl) (Nat.le_of_ble_eq_true rfl) ⟨Nat.le_refl _, Nat.le_refl _⟩ rfl (w.mono (fun r18 σ17 w => ?_))
          show XX g true (d + 1) P_X12_readUnit 72 [(2, 88), (0, r2)] [] 136 σ17 136 Q
          refine E_iconst 73 dX12_readUnit_72 (by decide) rfl ?_
          exact E_iret dX12_readUnit_73 rfl rfl w
        · have w := w.2 h
          refine E_bipush 55 dX12_readUnit_53 (by decide) rfl ?_
          refine E_goto 65 dX12_readUnit_55 rfl ?_
          refine E_callV (as := [(0, 1), (0, 11)]) 68 dX12_readUnit_65 cf_X12_emits mw_1483 mw_1485 mw_63 ac_88 (by decide) cl_X12 rfl rfl (Nat.le_of_ble_eq_true rfl) (Nat.le_of_ble_eq_true rfl) ⟨Nat.le_refl _, Nat.le_refl _⟩ rfl (w.mono (fun r20 σ19 w => ?_))
          show XX g true (d + 1) P_X12_readUnit 68 [(2, 88), (0, r2)] [] 136 σ19 136 Q
          refine E_aload_n 69 dX12_readUnit_68 rfl (ac_88.bnd) rfl ?_
          refine E_callV (as := []) 72 dX12_readUnit_69 cf_X12_reads mw_1407 mw_1409 mw_44 ac_88 (by decide) cl_X12 rfl rfl (Nat.le_of_ble_eq_true rfl) (Nat.le_of_ble_eq_true rfl) ⟨Nat.le_refl _, Nat.le_refl _⟩ rfl (w.mono (fun r22 σ21 w => ?_))
          show XX g true (d + 1) P_X12_readUnit 72 [(2, 88), (0, r2)] [] 136 σ21 136 Q
          refine E_iconst 73 dX12_readUnit_72 (by decide) rfl ?_
          exact E_iret dX12_readUnit_73 rfl rfl w
      · have w := w.2 h
        refine E_aload_n 38 dX12_readUnit_37 rfl (ac_88.bnd) rfl ?_
        refine E_get 23 41 dX12_readUnit_38 fl_X12_211 ac_88 rfl (by decide) rfl rfl ?_
        refine E_goto 65 dX12_readUnit_41 rfl ?_
        refine E_callV (as := [(0, 1), (0, σ1 88 23)]) 68 dX12_readUnit_65 cf_X12_emits mw_1483 mw_1485 mw_63 ac_88 (by decide) cl_X12 rfl rfl (Nat.le_of_ble_eq_true rfl) (Nat.le_of_ble_eq_true rfl) ⟨Nat.le_refl _, Nat.le_refl _⟩ rfl (w.mono (fun r24 σ23 w => ?_))
        show XX g true (d + 1) P_X12_readUnit 68 [(2, 88), (0, r2)] [] 136 σ23 136 Q
        refine E_aload_n 69 dX12_readUnit_68 rfl (ac_88.bnd) rfl ?_
        refine E_callV (as := []) 72 dX12_readUnit_69 cf_X12_reads mw_1407 mw_1409 mw_44 ac_88 (by decide) cl_X12 rfl rfl (Nat.le_of_ble_eq_true rfl) (Nat.le_of_ble_eq_true rfl) ⟨Nat.le_refl _, Nat.le_refl _⟩ rfl (w.mono (fun r26 σ25 w => ?_))
        show XX g true (d + 1) P_X12_readUnit 72 [(2, 88), (0, r2)] [] 136 σ25 136 Q
        refine E_iconst 73 dX12_readUnit_72 (by decide) rfl ?_
        exact E_iret dX12_readUnit_73 rfl rfl w
  · have w := w.2 h
    refine E_aload_n 10 dX12_readUnit_9 rfl (ac_88.bnd) rfl ?_
    refine E_get 22 13 dX12_readUnit_10 fl_X12_208 ac_88 rfl (by decide) rfl rfl ?_
    refine E_iconst 14 dX12_readUnit_13 (by decide) rfl ?_
    refine E_icmp_eq 17 23 dX12_readUnit_14 rfl rfl (fun h => ?_) (fun h => ?_)
    · have w := w.1 h
      refine E_aload_n 24 dX12_readUnit_23 rfl (ac_88.bnd) rfl ?_
      refine E_iload_n 25 dX12_readUnit_24 rfl rfl ?_
      refine E_if_eq 28 32 dX12_readUnit_25 rfl rfl (fun h => ?_) (fun h => ?_)
      · have w := w.1 h
        refine E_iconst 33 dX12_readUnit_32 (by decide) rfl ?_
        refine E_iload_n 34 dX12_readUnit_33 rfl rfl ?_
        refine E_if_ne 37 44 dX12_readUnit_34 rfl rfl (fun h => ?_) (fun h => ?_)
        · have w := w.1 h
          refine E_aload_n 45 dX12_readUnit_44 rfl (ac_88.bnd) rfl ?_
          refine E_get 23 48 dX12_readUnit_45 fl_X12_211 ac_88 rfl (by decide) rfl rfl ?_
          refine E_bipush 50 dX12_readUnit_48 (by decide) rfl ?_
          refine E_icmp_ne 53 58 dX12_readUnit_50 rfl rfl (fun h => ?_) (fun h => ?_)
          · have w := w.1 h
            refine E_aload_n 59 dX12_readUnit_58 rfl (ac_88.bnd) rfl ?_
            refine E_get 23 62 dX12_readUnit_59 fl_X12_211 ac_88 rfl (by decide) rfl rfl ?_
            refine E_bipush 64 dX12_readUnit_62 (by decide) rfl ?_
            refine E_isub 65 dX12_readUnit_64 rfl ?_
            refine E_callV (as := [(0, 0), (0, w32 ((σ1 88 23) - 13))]) 68 dX12_readUnit_65 cf_X12_emits mw_1483 mw_1485 mw_63 ac_88 (by decide) cl_X12 rfl rfl (Nat.le_of_ble_eq_true rfl) (Nat.le_of_ble_eq_true rfl) ⟨Nat.le_refl _, Nat.le_refl _⟩ rfl (w.mono (fun r28 σ27 w => ?_))
            show XX g true (d + 1) P_X12_readUnit 68 [(2, 88), (0, r2)] [] 136 σ27 136 Q
            refine E_aload_n 69 dX12_readUnit_68 rfl (ac_88.bnd) rfl ?_
            refine E_callV (as := []) 72 dX12_readUnit_69 cf_X12_reads mw_1407 mw_1409 mw_44 ac_88 (by decide) cl_X12 rfl rfl (Nat.le_of_ble_eq_true rfl) (Nat.le_of_ble_eq_true rfl) ⟨Nat.le_refl _, Nat.le_refl _⟩ rfl (w.mono (fun r30 σ29 w => ?_))
            show XX g true (d + 1) P_X12_readUnit 72 [(2, 88), (0, r2)] [] 136 σ29 136 Q
            refine E_iconst 73 dX12_readUnit_72 (by decide) rfl ?_
            exact E_iret dX12_readUnit_73 rfl rfl w
          · have w := w.2 h
            refine E_bipush 55 dX12_readUnit_53 (by decide) rfl ?_
            refine E_goto 65 dX12_readUnit_55 rfl ?_
            refine E_callV (as := [(0, 0), (0, 11)]) 68 dX12_readUnit_65 cf_X12_emits mw_1483 mw_1485 mw_63 ac_88 (by decide) cl_X12 rfl rfl (Nat.le_of_ble_eq_true rfl) (Nat.le_of_ble_eq_true rfl) ⟨Nat.le_refl _, Nat.le_refl _⟩ rfl (w.mono (fun r32 σ31 w => ?_))
            show XX g true (d + 1) P_X12_readUnit 68 [(2, 88), (0, r2)] [] 136 σ31 136 Q
            refine E_aload_n 69 dX12_readUnit_68 rfl (ac_88.bnd) rfl ?_
            refine E_callV (as := []) 72 dX12_readUnit_69 cf_X12_reads mw_1407 mw_1409 mw_44 ac_88 (by decide) cl_X12 rfl rfl (Nat.le_of_ble_eq_true rfl) (Nat.le_of_ble_eq_true rfl) ⟨Nat.le_refl _, Nat.le_refl _⟩ rfl (w.mono (fun r34 σ33 w => ?_))
            show XX g true (d + 1) P_X12_readUnit 72 [(2, 88), (0, r2)] [] 136 σ33 136 Q
            refine E_iconst 73 dX12_readUnit_72 (by decide) rfl ?_
            exact E_iret dX12_readUnit_73 rfl rfl w
        · have w := w.2 h
          refine E_aload_n 38 dX12_readUnit_37 rfl (ac_88.bnd) rfl ?_
          refine E_get 23 41 dX12_readUnit_38 fl_X12_211 ac_88 rfl (by decide) rfl rfl ?_
          refine E_goto 65 dX12_readUnit_41 rfl ?_
          refine E_callV (as := [(0, 0), (0, σ1 88 23)]) 68 dX12_readUnit_65 cf_X12_emits mw_1483 mw_1485 mw_63 ac_88 (by decide) cl_X12 rfl rfl (Nat.le_of_ble_eq_true rfl) (Nat.le_of_ble_eq_true rfl) ⟨Nat.le_refl _, Nat.le_refl _⟩ rfl (w.mono (fun r36 σ35 w => ?_))
          show XX g true (d + 1) P_X12_readUnit 68 [(2, 88), (0, r2)] [] 136 σ35 136 Q
          refine E_aload_n 69 dX12_readUnit_68 rfl (ac_88.bnd) rfl ?_
          refine E_callV (as := []) 72 dX12_readUnit_69 cf_X12_reads mw_1407 mw_1409 mw_44 ac_88 (by decide) cl_X12 rfl rfl (Nat.le_of_ble_eq_true rfl) (Nat.le_of_ble_eq_true rfl) ⟨Nat.le_refl _, Nat.le_refl _⟩ rfl (w.mono (fun r38 σ37 w => ?_))
          show XX g true (d + 1) P_X12_readUnit 72 [(2, 88), (0, r2)] [] 136 σ37 136 Q
          refine E_iconst 73 dX12_readUnit_72 (by decide) rfl ?_
          exact E_iret dX12_readUnit_73 rfl rfl w
      · have w := w.2 h
        refine E_iconst 29 dX12_readUnit_28 (by decide) rfl ?_
        refine E_goto 33 dX12_readUnit_29 rfl ?_
        refine E_iload_n 34 dX12_readUnit_33 rfl rfl ?_
        refine E_if_ne 37 44 dX12_readUnit_34 rfl rfl (fun h => ?_) (fun h => ?_)
        · have w := w.1 h
          refine E_aload_n 45 dX12_readUnit_44 rfl (ac_88.bnd) rfl ?_
          refine E_get 23 48 dX12_readUnit_45 fl_X12_211 ac_88 rfl (by decide) rfl rfl ?_
          refine E_bipush 50 dX12_readUnit_48 (by decide) rfl ?_
          refine E_icmp_ne 53 58 dX12_readUnit_50 rfl rfl (fun h => ?_) (fun h => ?_)
          · have w := w.1 h
            refine E_aload_n 59 dX12_readUnit_58 rfl (ac_88.bnd) rfl ?_
            refine E_get 23 62 dX12_readUnit_59 fl_X12_211 ac_88 rfl (by decide) rfl rfl ?_
            refine E_bipush 64 dX12_readUnit_62 (by decide) rfl ?_
            refine E_isub 65 dX12_readUnit_64 rfl ?_
            refine E_callV (as := [(0, 1), (0, w32 ((σ1 88 23) - 13))]) 68 dX12_readUnit_65 cf_X12_emits mw_1483 mw_1485 mw_63 ac_88 (by decide) cl_X12 rfl rfl (Nat.le_of_ble_eq_true rfl) (Nat.le_of_ble_eq_true rfl) ⟨Nat.le_refl _, Nat.le_refl _⟩ rfl (w.mono (fun r40 σ39 w => ?_))
            show XX g true (d + 1) P_X12_readUnit 68 [(2, 88), (0, r2)] [] 136 σ39 136 Q
            refine E_aload_n 69 dX12_readUnit_68 rfl (ac_88.bnd) rfl ?_
            refine E_callV (as := []) 72 dX12_readUnit_69 cf_X12_reads mw_1407 mw_1409 mw_44 ac_88 (by decide) cl_X12 rfl rfl (Nat.le_of_ble_eq_true rfl) (Nat.le_of_ble_eq_true rfl) ⟨Nat.le_refl _, Nat.le_refl _⟩ rfl (w.mono (fun r42 σ41 w => ?_))
            show XX g true (d + 1) P_X12_readUnit 72 [(2, 88), (0, r2)] [] 136 σ41 136 Q
            refine E_iconst 73 dX12_readUnit_72 (by decide) rfl ?_
            exact E_iret dX12_readUnit_73 rfl rfl w
          · have w := w.2 h
            refine E_bipush 55 dX12_readUnit_53 (by decide) rfl ?_
            refine E_goto 65 dX12_readUnit_55 rfl ?_
            refine E_callV (as := [(0, 1), (0, 11)]) 68 dX12_readUnit_65 cf_X12_emits mw_1483 mw_1485 mw_63 ac_88 (by decide) cl_X12 rfl rfl (Nat.le_of_ble_eq_true rfl) (Nat.le_of_ble_eq_true rfl) ⟨Nat.le_refl _, Nat.le_refl _⟩ rfl (w.mono (fun r44 σ43 w => ?_))
            show XX g true (d + 1) P_X12_readUnit 68 [(2, 88), (0, r2)] [] 136 σ43 136 Q
            refine E_aload_n 69 dX12_readUnit_68 rfl (ac_88.bnd) rfl ?_
            refine E_callV (as := []) 72 dX12_readUnit_69 cf_X12_reads mw_1407 mw_1409 mw_44 ac_88 (by decide) cl_X12 rfl rfl (Nat.le_of_ble_eq_true rfl) (Nat.le_of_ble_eq_true rfl) ⟨Nat.le_refl _, Nat.le_refl _⟩ rfl (w.mono (fun r46 σ45 w => ?_))
            show XX g true (d + 1) P_X12_readUnit 72 [(2, 88), (0, r2)] [] 136 σ45 136 Q
            refine E_iconst 73 dX12_readUnit_72 (by decide) rfl ?_
            exact E_iret dX12_readUnit_73 rfl rfl w
        · have w := w.2 h
          refine E_aload_n 38 dX12_readUnit_37 rfl (ac_88.bnd) rfl ?_
          refine E_get 23 41 dX12_readUnit_38 fl_X12_211 ac_88 rfl (by decide) rfl rfl ?_
          refine E_goto 65 dX12_readUnit_41 rfl ?_
          refine E_callV (as := [(0, 1), (0, σ1 88 23)]) 68 dX12_readUnit_65 cf_X12_emits mw_1483 mw_1485 mw_63 ac_88 (by decide) cl_X12 rfl rfl (Nat.le_of_ble_eq_true rfl) (Nat.le_of_ble_eq_true rfl) ⟨Nat.le_refl _, Nat.le_refl _⟩ rfl (w.mono (fun r48 σ47 w => ?_))
          show XX g true (d + 1) P_X12_readUnit 68 [(2, 88), (0, r2)] [] 136 σ47 136 Q
          refine E_aload_n 69 dX12_readUnit_68 rfl (ac_88.bnd) rfl ?_
          refine E_callV (as := []) 72 dX12_readUnit_69 cf_X12_reads mw_1407 mw_1409 mw_44 ac_88 (by decide) cl_X12 rfl rfl (Nat.le_of_ble_eq_true rfl) (Nat.le_of_ble_eq_true rfl) ⟨Nat.le_refl _, Nat.le_refl _⟩ rfl (w.mono (fun r50 σ49 w => ?_))
          show XX g true (d + 1) P_X12_readUnit 72 [(2, 88), (0, r2)] [] 136 σ49 136 Q
          refine E_iconst 73 dX12_readUnit_72 (by decide) rfl ?_
          exact E_iret dX12_readUnit_73 rfl rfl w
    · have w := w.2 h
      refine E_aload_n 18 dX12_readUnit_17 rfl (ac_88.bnd) rfl ?_
      refine E_iconst 19 dX12_readUnit_18 (by decide) rfl ?_
      refine E_callV (as := [(0, 1)]) 22 dX12_readUnit_19 cf_X12_errs mw_1435 mw_1437 mw_51 ac_88 (by decide) cl_X12 rfl rfl (Nat.le_of_ble_eq_true rfl) (Nat.le_of_ble_eq_true rfl) ⟨Nat.le_refl _, Nat.le_refl _⟩ rfl (w.mono (fun r52 σ51 w => ?_))
      show XX g true (d + 1) P_X12_readUnit 22 [(2, 88), (0, r2)] [(0, r52)] 136 σ51 136 Q
      exact E_iret dX12_readUnit_22 rfl rfl w
theorem B_X12_readProduct_0 {g : PG} {d : Nat} {σ : PS} {Q : Int → PS → Prop}  (w : XX g true d P_X12_readUnit 0 [(2, 88), (9, 0)] [] 136 σ 136 (fun r2 σ1 => ((r2 ≠ (-1) → (XX g true (d + 1) P_X12_readProduct 10 [(2, 88), (9, 0)] [] 136 σ1 136 Q)) ∧ (r2 = (-1) → Q (-1) σ1)))) : XX g true (d + 1) P_X12_readProduct 0 [(2, 88), (9, 0)] [] 136 σ 136 Q := by
  refine E_aload_n 1 dX12_readProduct_0 rfl (ac_88.bnd) rfl ?_
  refine E_callV (as := []) 4 dX12_readProduct_1 cf_X12_readUnit mw_1475 mw_1477 mw_61 ac_88 (by decide) cl_X12 rfl rfl (Nat.le_of_ble_eq_true rfl) (Nat.le_of_ble_eq_true rfl) ⟨Nat.le_refl _, Nat.le_refl _⟩ rfl (w.mono (fun r2 σ1 w => ?_))
  show XX g true (d + 1) P_X12_readProduct 4 [(2, 88), (9, 0)] [(0, r2)] 136 σ1 136 Q
  refine E_iconst 5 dX12_readProduct_4 (by decide) rfl ?_
  refine E_icmp_ne 8 10 dX12_readProduct_5 rfl rfl (fun h => ?_) (fun h => ?_)
  · have w := w.1 h
    with_reducible exact w
  · have w := w.2 h
    refine E_iconst 9 dX12_readProduct_8 (by decide) rfl ?_
    exact E_iret dX12_readProduct_9 rfl rfl w
theorem B_X12_readProduct_10 {g : PG} {d : Nat} {σ : PS} {Q : Int → PS → Prop}  (w : XX g true d P_X12_isSign 0 [(2, 88), (0, 42)] [] 136 σ 136 (fun r2 σ1 => ((r2 ≠ 0 → XX g true d P_X12_isSign 0 [(2, 88), (0, 42)] [] 136 σ1 136 (fun r4 σ3 => XX g true d P_X12_reads 0 [(2, 88), (9, 0)] [] 136 σ3 136 (fun _ σ5 => ((r4 ≠ 0 → ((r4 ≠ 0 → XX g true d P_X12_readUnit 0 [(2, 88), (9, 0)] [] 136 σ5 136 (fun r8 σ7 => ((r8 ≠ (-1) → ((r4 = 0 → XX g true d P_X12_emits 0 [(2, 88), (0, 5), (0, 0)] [] 136 σ7 136 (fun _ σ9 => (XX g true (d + 1) P_X12_readProduct 10 [(2, 88), (9, 0)] [] 136 σ9 136 Q))) ∧ (r4 ≠ 0 → XX g true d P_X12_emits 0 [(2, 88), (0, 4), (0, 0)] [] 136 σ7 136 (fun _ σ11 => (XX g true (d + 1) P_X12_readProduct 10 [(2, 88), (9, 0)] [] 136 σ11 136 Q))))) ∧ (r8 = (-1) → Q (-1) σ7)))) ∧ (r4 = 0 → ((σ5 88 23 ≠ 0 → XX g true d P_X12_readUnit 0 [(2, 88), (9, 0)] [] 136 σ5 136 (fun r14 σ13 => ((r14 ≠ (-1) → ((r4 = 0 → XX g true d P_X12_emits 0 [(2, 88), (0, 5), (0, 0)] [] 136 σ13 136 (fun _ σ15 => (XX g true (d + 1) P_X12_readProduct 10 [(2, 88), (9, 0)] [] 136 σ15 136 Q))) ∧ (r4 ≠ 0 → XX g true d P_X12_emits 0 [(2, 88), (0, 4), (0, 0)] [] 136 σ13 136 (fun _ σ17 => (XX g true (d + 1) P_X12_readProduct 10 [(2, 88), (9, 0)] [] 136 σ17 136 Q))))) ∧ (r14 = (-1) → Q (-1) σ13)))) ∧ (σ5 88 23 = 0 → XX g true d P_X12_errs 0 [(2, 88), (0, 2)] [] 136 σ5 136 (fun r20 σ19 => Q r20 σ19)))))) ∧ (r4 = 0 → ((σ5 88 22 = 3 → ((r4 ≠ 0 → XX g true d P_X12_readUnit 0 [(2, 88), (9, 0)] [] 136 σ5 136 (fun r22 σ21 => ((r22 ≠ (-1) → ((r4 = 0 → XX g true d P_X12_emits 0 [(2, 88), (0, 5), (0, 0)] [] 136 σ21 136 (fun _ σ23 => (XX g true (d + 1) P_X12_readProduct 10 [(2, 88), (9, 0)] [] 136 σ23 136 Q))) ∧ (r4 ≠ 0 → XX g true d P_X12_emits 0 [(2, 88), (0, 4), (0, 0)] [] 136 σ21 136 (fun _ σ25 => (XX g true (d + 1) P_X12_readProduct 10 [(2, 88), (9, 0)] [] 136 σ25 136 Q))))) ∧ (r22 = (-1) → Q (-1) σ21)))) ∧ (r4 = 0 → ((σ5 88 23 ≠ 0 → XX g true d P_X12_readUnit 0 [(2, 88), (9, 0)] [] 136 σ5 136 (fun r28 σ27 => ((r28 ≠ (-1) → ((r4 = 0 → XX g true d P_X12_emits 0 [(2, 88), (0, 5), (0, 0)] [] 136 σ27 136 (fun _ σ29 => (XX g true (d + 1) P_X12_readProduct 10 [(2, 88), (9, 0)] [] 136 σ29 136 Q))) ∧ (r4 ≠ 0 → XX g true d P_X12_emits 0 [(2, 88), (0, 4), (0, 0)] [] 136 σ27 136 (fun _ σ31 => (XX g true (d + 1) P_X12_readProduct 10 [(2, 88), (9, 0)] [] 136 σ31 136 Q))))) ∧ (r28 = (-1) → Q (-1) σ27)))) ∧ (σ5 88 23 = 0 → XX g true d P_X12_errs 0 [(2, 88), (0, 2)] [] 136 σ5 136 (fun r34 σ33 => Q r34 σ33)))))) ∧ (σ5 88 22 ≠ 3 → XX g true d P_X12_errs 0 [(2, 88), (0, 1)] [] 136 σ5 136 (fun r36 σ35 => Q r36 σ35)))))))) ∧ (r2 = 0 → XX g true d P_X12_isSign 0 [(2, 88), (0, 47)] [] 136 σ1 136 (fun r38 σ37 => ((r38 = 0 → Q 0 σ37) ∧ (r38 ≠ 0 → XX g true d P_X12_isSign 0 [(2, 88), (0, 42)] [] 136 σ37 136 (fun r40 σ39 => XX g true d P_X12_reads 0 [(2, 88), (9, 0)] [] 136 σ39 136 (fun _ σ41 => ((r40 ≠ 0 → ((r40 ≠ 0 → XX g true d P_X12_readUnit 0 [(2, 88), (9, 0)] [] 136 σ41 136 (fun r44 σ43 => ((r44 ≠ (-1) → ((r40 = 0 → XX g true d P_X12_emits 0 [(2, 88), (0, 5), (0, 0)] [] 136 σ43 136 (fun _ σ45 => (XX g true (d + 1) P_X12_readProduct 10 [(2, 88), (9, 0)] [] 136 σ45 136 Q))) ∧ (r40 ≠ 0 → XX g true d P_X12_emits 0 [(2, 88), (0, 4), (0, 0)] [] 136 σ43 136 (fun _ σ47 => (XX g true (d + 1) P_X12_readProduct 10 [(2, 88), (9, 0)] [] 136 σ47 136 Q))))) ∧ (r44 = (-1) → Q (-1) σ43)))) ∧ (r40 = 0 → ((σ41 88 23 ≠ 0 → XX g true d P_X12_readUnit 0 [(2, 88), (9, 0)] [] 136 σ41 136 (fun r50 σ49 => ((r50 ≠ (-1) → ((r40 = 0 → XX g true d P_X12_emits 0 [(2, 88), (0, 5), (0, 0)] [] 136 σ49 136 (fun _ σ51 => (XX g true (d + 1) P_X12_readProduct 10 [(2, 88), (9, 0)] [] 136 σ51 136 Q))) ∧ (r40 ≠ 0 → XX g true d P_X12_emits 0 [(2, 88), (0, 4), (0, 0)] [] 136 σ49 136 (fun _ σ53 => (XX g true (d + 1) P_X12_readProduct 10 [(2, 88), (9, 0)] [] 136 σ53 136 Q))))) ∧ (r50 = (-1) → Q (-1) σ49)))) ∧ (σ41 88 23 = 0 → XX g true d P_X12_errs 0 [(2, 88), (0, 2)] [] 136 σ41 136 (fun r56 σ55 => Q r56 σ55)))))) ∧ (r40 = 0 → ((σ41 88 22 = 3 → ((r40 ≠ 0 → XX g true d P_X12_readUnit 0 [(2, 88), (9, 0)] [] 136 σ41 136 (fun r58 σ57 => ((r58 ≠ (-1) → ((r40 = 0 → XX g true d P_X12_emits 0 [(2, 88), (0, 5), (0, 0)] [] 136 σ57 136 (fun _ σ59 => (XX g true (d + 1) P_X12_readProduct 10 [(2, 88), (9, 0)] [] 136 σ59 136 Q))) ∧ (r40 ≠ 0 → XX g true d P_X12_emits 0 [(2, 88), (0, 4), (0, 0)] [] 136 σ57 136 (fun _ σ61 => (XX g true (d + 1) P_X12_readProduct 10 [(2, 88), (9, 0)] [] 136 σ61 136 Q))))) ∧ (r58 = (-1) → Q (-1) σ57)))) ∧ (r40 = 0 → ((σ41 88 23 ≠ 0 → XX g true d P_X12_readUnit 0 [(2, 88), (9, 0)] [] 136 σ41 136 (fun r64 σ63 => ((r64 ≠ (-1) → ((r40 = 0 → XX g true d P_X12_emits 0 [(2, 88), (0, 5), (0, 0)] [] 136 σ63 136 (fun _ σ65 => (XX g true (d + 1) P_X12_readProduct 10 [(2, 88), (9, 0)] [] 136 σ65 136 Q))) ∧ (r40 ≠ 0 → XX g true d P_X12_emits 0 [(2, 88), (0, 4), (0, 0)] [] 136 σ63 136 (fun _ σ67 => (XX g true (d + 1) P_X12_readProduct 10 [(2, 88), (9, 0)] [] 136 σ67 136 Q))))) ∧ (r64 = (-1) → Q (-1) σ63)))) ∧ (σ41 88 23 = 0 → XX g true d P_X12_errs 0 [(2, 88), (0, 2)] [] 136 σ41 136 (fun r70 σ69 => Q r70 σ69)))))) ∧ (σ41 88 22 ≠ 3 → XX g true d P_X12_errs 0 [(2, 88), (0, 1)] [] 136 σ41 136 (fun r72 σ71 => Q r72 σ71)))))))))))))) : XX g true (d + 1) P_X12_readProduct 10 [(2, 88), (9, 0)] [] 136 σ 136 Q := by
  refine E_aload_n 11 dX12_readProduct_10 rfl (ac_88.bnd) rfl ?_
  refine E_bipush 13 dX12_readProduct_11 (by decide) rfl ?_
  refine E_callV (as := [(0, 42)]) 16 dX12_readProduct_13 cf_X12_isSign mw_1455 mw_1457 mw_56 ac_88 (by decide) cl_X12 rfl rfl (Nat.le_of_ble_eq_true rfl) (Nat.le_of_ble_eq_true rfl) ⟨Nat.le_refl _, Nat.le_refl _⟩ rfl (w.mono (fun r2 σ1 w => ?_))
  show XX g true (d + 1) P_X12_readProduct 16 [(2, 88), (9, 0)] [(0, r2)] 136 σ1 136 Q
  refine E_if_ne 19 28 dX12_readProduct_16 rfl rfl (fun h => ?_) (fun h => ?_)
  · have w := w.1 h
    refine E_aload_n 29 dX12_readProduct_28 rfl (ac_88.bnd) rfl ?_
    refine E_bipush 31 dX12_readProduct_29 (by decide) rfl ?_
    refine E_callV (as := [(0, 42)]) 34 dX12_readProduct_31 cf_X12_isSign mw_1455 mw_1457 mw_56 ac_88 (by decide) cl_X12 rfl rfl (Nat.le_of_ble_eq_true rfl) (Nat.le_of_ble_eq_true rfl) ⟨Nat.le_refl _, Nat.le_refl _⟩ rfl (w.mono (fun r4 σ3 w => ?_))
    show XX g true (d + 1) P_X12_readProduct 34 [(2, 88), (9, 0)] [(0, r4)] 136 σ3 136 Q
    refine E_istore_n (ls' := [(2, 88), (0, r4)]) 35 dX12_readProduct_34 (by decide) rfl rfl ?_
    refine E_aload_n 36 dX12_readProduct_35 rfl (ac_88.bnd) rfl ?_
    refine E_callV (as := []) 39 dX12_readProduct_36 cf_X12_reads mw_1407 mw_1409 mw_44 ac_88 (by decide) cl_X12 rfl rfl (Nat.le_of_ble_eq_true rfl) (Nat.le_of_ble_eq_true rfl) ⟨Nat.le_refl _, Nat.le_refl _⟩ rfl (w.mono (fun r6 σ5 w => ?_))
    show XX g true (d + 1) P_X12_readProduct 39 [(2, 88), (0, r4)] [] 136 σ5 136 Q
    refine E_iload_n 40 dX12_readProduct_39 rfl rfl ?_
    refine E_if_ne 43 57 dX12_readProduct_40 rfl rfl (fun h => ?_) (fun h => ?_)
    · have w := w.1 h
      refine E_iload_n 58 dX12_readProduct_57 rfl rfl ?_
      refine E_if_ne 61 74 dX12_readProduct_58 rfl rfl (fun h => ?_) (fun h => ?_)
      · have w := w.1 h
        refine E_aload_n 75 dX12_readProduct_74 rfl (ac_88.bnd) rfl ?_
        refine E_callV (as := []) 78 dX12_readProduct_75 cf_X12_readUnit mw_1475 mw_1477 mw_61 ac_88 (by decide) cl_X12 rfl rfl (Nat.le_of_ble_eq_true rfl) (Nat.le_of_ble_eq_true rfl) ⟨Nat.le_refl _, Nat.le_refl _⟩ rfl (w.mono (fun r8 σ7 w => ?_))
        show XX g true (d + 1) P_X12_readProduct 78 [(2, 88), (0, r4)] [(0, r8)] 136 σ7 136 Q
        refine E_iconst 79 dX12_readProduct_78 (by decide) rfl ?_
        refine E_icmp_ne 82 84 dX12_readProduct_79 rfl rfl (fun h => ?_) (fun h => ?_)
        · have w := w.1 h
          refine E_aload_n 85 dX12_readProduct_84 rfl (ac_88.bnd) rfl ?_
          refine E_iload_n 86 dX12_readProduct_85 rfl rfl ?_
          refine E_if_eq 89 93 dX12_readProduct_86 rfl rfl (fun h => ?_) (fun h => ?_)
          · have w := w.1 h
            refine E_iconst 94 dX12_readProduct_93 (by decide) rfl ?_
            refine E_iconst 95 dX12_readProduct_94 (by decide) rfl ?_
            refine E_callV (as := [(0, 5), (0, 0)]) 98 dX12_readProduct_95 cf_X12_emits mw_1483 mw_1485 mw_63 ac_88 (by decide) cl_X12 rfl rfl (Nat.le_of_ble_eq_true rfl) (Nat.le_of_ble_eq_true rfl) ⟨Nat.le_refl _, Nat.le_refl _⟩ rfl (w.mono (fun r10 σ9 w => ?_))
            show XX g true (d + 1) P_X12_readProduct 98 [(2, 88), (0, r4)] [] 136 σ9 136 Q
            refine E_goto 10 dX12_readProduct_98 rfl ?_
            refine XX.fg [1] [(2, 88), (9, 0)] rfl ?_
            with_reducible exact w
          · have w := w.2 h
            refine E_iconst 90 dX12_readProduct_89 (by decide) rfl ?_
            refine E_goto 94 dX12_readProduct_90 rfl ?_
            refine E_iconst 95 dX12_readProduct_94 (by decide) rfl ?_
            refine E_callV (as := [(0, 4), (0, 0)]) 98 dX12_readProduct_95 cf_X12_emits mw_1483 mw_1485 mw_63 ac_88 (by decide) cl_X12 rfl rfl (Nat.le_of_ble_eq_true rfl) (Nat.le_of_ble_eq_true rfl) ⟨Nat.le_refl _, Nat.le_refl _⟩ rfl (w.mono (fun r12 σ11 w => ?_))
            show XX g true (d + 1) P_X12_readProduct 98 [(2, 88), (0, r4)] [] 136 σ11 136 Q
            refine E_goto 10 dX12_readProduct_98 rfl ?_
            refine XX.fg [1] [(2, 88), (9, 0)] rfl ?_
            with_reducible exact w
        · have w := w.2 h
          refine E_iconst 83 dX12_readProduct_82 (by decide) rfl ?_
          exact E_iret dX12_readProduct_83 rfl rfl w
      · have w := w.2 h
        refine E_aload_n 62 dX12_readProduct_61 rfl (ac_88.bnd) rfl ?_
        refine E_get 23 65 dX12_readProduct_62 fl_X12_211 ac_88 rfl (by decide) rfl rfl ?_
        refine E_if_ne 68 74 dX12_readProduct_65 rfl rfl (fun h => ?_) (fun h => ?_)
        · have w := w.1 h
          refine E_aload_n 75 dX12_readProduct_74 rfl (ac_88.bnd) rfl ?_
          refine E_callV (as := []) 78 dX12_readProduct_75 cf_X12_readUnit mw_1475 mw_1477 mw_61 ac_88 (by decide) cl_X12 rfl rfl (Nat.le_of_ble_eq_true rfl) (Nat.le_of_ble_eq_true rfl) ⟨Nat.le_refl _, Nat.le_refl _⟩ rfl (w.mono (fun r14 σ13 w => ?_))
          show XX g true (d + 1) P_X12_readProduct 78 [(2, 88), (0, r4)] [(0, r14)] 136 σ13 136 Q
          refine E_iconst 79 dX12_readProduct_78 (by decide) rfl ?_
          refine E_icmp_ne 82 84 dX12_readProduct_79 rfl rfl (fun h => ?_) (fun h => ?_)
          · have w := w.1 h
            refine E_aload_n 85 dX12_readProduct_84 rfl (ac_88.bnd) rfl ?_
            refine E_iload_n 86 dX12_readProduct_85 rfl rfl ?_
            refine E_if_eq 89 93 dX12_readProduct_86 rfl rfl (fun h => ?_) (fun h => ?_)
            · have w := w.1 h
              refine E_iconst 94 dX12_readProduct_93 (by decide) rfl ?_
              refine E_iconst 95 dX12_readProduct_94 (by decide) rfl ?_
              refine E_callV (as := [(0, 5), (0, 0)]) 98 dX12_readProduct_95 cf_X12_emits mw_1483 mw_1485 mw_63 ac_88 (by decide) cl_X12 rfl rfl (Nat.le_of_ble_eq_true rfl) (Nat.le_of_ble_eq_true rfl) ⟨Nat.le_refl _, Nat.le_refl _⟩ rfl (w.mono (fun r16 σ15 w => ?_))
              show XX g true (d + 1) P_X12_readProduct 98 [(2, 88), (0, r4)] [] 136 σ15 136 Q
              refine E_goto 10 dX12_readProduct_98 rfl ?_
              refine XX.fg [1] [(2, 88), (9, 0)] rfl ?_
              with_reducible exact w
            · have w := w.2 h
              refine E_iconst 90 dX12_readProduct_89 (by decide) rfl ?_
              refine E_goto 94 dX12_readProduct_90 rfl ?_
              refine E_iconst 95 dX12_readProduct_94 (by decide) rfl ?_
              refine E_callV (as := [(0, 4), (0, 0)]) 98 dX12_readProduct_95 cf_X12_emits mw_1483 mw_1485 mw_63 ac_88 (by decide) cl_X12 rfl rfl (Nat.le_of_ble_eq_true rfl) (Nat.le_of_ble_eq_true rfl) ⟨Nat.le_refl _, Nat.le_refl _⟩ rfl (w.mono (fun r18 σ17 w => ?_))
              show XX g true (d + 1) P_X12_readProduct 98 [(2, 88), (0, r4)] [] 136 σ17 136 Q
              refine E_goto 10 dX12_readProduct_98 rfl ?_
              refine XX.fg [1] [(2, 88), (9, 0)] rfl ?_
              with_reducible exact w
          · have w := w.2 h
            refine E_iconst 83 dX12_readProduct_82 (by decide) rfl ?_
            exact E_iret dX12_readProduct_83 rfl rfl w
        · have w := w.2 h
          refine E_aload_n 69 dX12_readProduct_68 rfl (ac_88.bnd) rfl ?_
          refine E_iconst 70 dX12_readProduct_69 (by decide) rfl ?_
          refine E_callV (as := [(0, 2)]) 73 dX12_readProduct_70 cf_X12_errs mw_1435 mw_1437 mw_51 ac_88 (by decide) cl_X12 rfl rfl (Nat.le_of_ble_eq_true rfl) (Nat.le_of_ble_eq_true rfl) ⟨Nat.le_refl _, Nat.le_refl _⟩ rfl (w.mono (fun r20 σ19 w => ?_))
          show XX g true (d + 1) P_X12_readProduct 73 [(2, 88), (0, r4)] [(0, r20)] 136 σ19 136 Q
          exact E_iret dX12_readProduct_73 rfl rfl w
    · have w := w.2 h
      refine E_aload_n 44 dX12_readProduct_43 rfl (ac_88.bnd) rfl ?_
      refine E_get 22 47 dX12_readProduct_44 fl_X12_208 ac_88 rfl (by decide) rfl rfl ?_
      refine E_iconst 48 dX12_readProduct_47 (by decide) rfl ?_
      refine E_icmp_eq 51 57 dX12_readProduct_48 rfl rfl (fun h => ?_) (fun h => ?_)
      · have w := w.1 h
        refine E_iload_n 58 dX12_readProduct_57 rfl rfl ?_
        refine E_if_ne 61 74 dX12_readProduct_58 rfl rfl (fun h => ?_) (fun h => ?_)
        · have w := w.1 h
          refine E_aload_n 75 dX12_readProduct_74 rfl (ac_88.bnd) rfl ?_
          refine E_callV (as := []) 78 dX12_readProduct_75 cf_X12_readUnit mw_1475 mw_1477 mw_61 ac_88 (by decide) cl_X12 rfl rfl (Nat.le_of_ble_eq_true rfl) (Nat.le_of_ble_eq_true rfl) ⟨Nat.le_refl _, Nat.le_refl _⟩ rfl (w.mono (fun r22 σ21 w => ?_))
          show XX g true (d + 1) P_X12_readProduct 78 [(2, 88), (0, r4)] [(0, r22)] 136 σ21 136 Q
          refine E_iconst 79 dX12_readProduct_78 (by decide) rfl ?_
          refine E_icmp_ne 82 84 dX12_readProduct_79 rfl rfl (fun h => ?_) (fun h => ?_)
          · have w := w.1 h
            refine E_aload_n 85 dX12_readProduct_84 rfl (ac_88.bnd) rfl ?_
            refine E_iload_n 86 dX12_readProduct_85 rfl rfl ?_
            refine E_if_eq 89 93 dX12_readProduct_86 rfl rfl (fun h => ?_) (fun h => ?_)
            · have w := w.1 h
              refine E_iconst 94 dX12_readProduct_93 (by decide) rfl ?_
              refine E_iconst 95 dX12_readProduct_94 (by decide) rfl ?_
              refine E_callV (as := [(0, 5), (0, 0)]) 98 dX12_readProduct_95 cf_X12_emits mw_1483 mw_1485 mw_63 ac_88 (by decide) cl_X12 rfl rfl (Nat.le_of_ble_eq_true rfl) (Nat.le_of_ble_eq_true rfl) ⟨Nat.le_refl _, Nat.le_refl _⟩ rfl (w.mono (fun r24 σ23 w => ?_))
              show XX g true (d + 1) P_X12_readProduct 98 [(2, 88), (0, r4)] [] 136 σ23 136 Q
              refine E_goto 10 dX12_readProduct_98 rfl ?_
              refine XX.fg [1] [(2, 88), (9, 0)] rfl ?_
              with_reducible exact w
            · have w := w.2 h
              refine E_iconst 90 dX12_readProduct_89 (by decide) rfl ?_
              refine E_goto 94 dX12_readProduct_90 rfl ?_
              refine E_iconst 95 dX12_readProduct_94 (by decide) rfl ?_
              refine E_callV (as := [(0, 4), (0, 0)]) 98 dX12_readProduct_95 cf_X12_emits mw_1483 mw_1485 mw_63 ac_88 (by decide) cl_X12 rfl rfl (Nat.le_of_ble_eq_true rfl) (Nat.le_of_ble_eq_true rfl) ⟨Nat.le_refl _, Nat.le_refl _⟩ rfl (w.mono (fun r26 σ25 w => ?_))
              show XX g true (d + 1) P_X12_readProduct 98 [(2, 88), (0, r4)] [] 136 σ25 136 Q
              refine E_goto 10 dX12_readProduct_98 rfl ?_
              refine XX.fg [1] [(2, 88), (9, 0)] rfl ?_
              with_reducible exact w
          · have w := w.2 h
            refine E_iconst 83 dX12_readProduct_82 (by decide) rfl ?_
            exact E_iret dX12_readProduct_83 rfl rfl w
        · have w := w.2 h
          refine E_aload_n 62 dX12_readProduct_61 rfl (ac_88.bnd) rfl ?_
          refine E_get 23 65 dX12_readProduct_62 fl_X12_211 ac_88 rfl (by decide) rfl rfl ?_
          refine E_if_ne 68 74 dX12_readProduct_65 rfl rfl (fun h => ?_) (fun h => ?_)
          · have w := w.1 h
            refine E_aload_n 75 dX12_readProduct_74 rfl (ac_88.bnd) rfl ?_
            refine E_callV (as := []) 78 dX12_readProduct_75 cf_X12_readUnit mw_1475 mw_1477 mw_61 ac_88 (by decide) cl_X12 rfl rfl (Nat.le_of_ble_eq_true rfl) (Nat.le_of_ble_eq_true rfl) ⟨Nat.le_refl _, Nat.le_refl _⟩ rfl (w.mono (fun r28 σ27 w => ?_))
            show XX g true (d + 1) P_X12_readProduct 78 [(2, 88), (0, r4)] [(0, r28)] 136 σ27 136 Q
            refine E_iconst 79 dX12_readProduct_78 (by decide) rfl ?_
            refine E_icmp_ne 82 84 dX12_readProduct_79 rfl rfl (fun h => ?_) (fun h => ?_)
            · have w := w.1 h
              refine E_aload_n 85 dX12_readProduct_84 rfl (ac_88.bnd) rfl ?_
              refine E_iload_n 86 dX12_readProduct_85 rfl rfl ?_
              refine E_if_eq 89 93 dX12_readProduct_86 rfl rfl (fun h => ?_) (fun h => ?_)
              · have w := w.1 h
                refine E_iconst 94 dX12_readProduct_93 (by decide) rfl ?_
                refine E_iconst 95 dX12_readProduct_94 (by decide) rfl ?_
                refine E_callV (as := [(0, 5), (0, 0)]) 98 dX12_readProduct_95 cf_X12_emits mw_1483 mw_1485 mw_63 ac_88 (by decide) cl_X12 rfl rfl (Nat.le_of_ble_eq_true rfl) (Nat.le_of_ble_eq_true rfl) ⟨Nat.le_refl _, Nat.le_refl _⟩ rfl (w.mono (fun r30 σ29 w => ?_))
                show XX g true (d + 1) P_X12_readProduct 98 [(2, 88), (0, r4)] [] 136 σ29 136 Q
                refine E_goto 10 dX12_readProduct_98 rfl ?_
                refine XX.fg [1] [(2, 88), (9, 0)] rfl ?_
                with_reducible exact w
              · have w := w.2 h
                refine E_iconst 90 dX12_readProduct_89 (by decide) rfl ?_
                refine E_goto 94 dX12_readProduct_90 rfl ?_
                refine E_iconst 95 dX12_readProduct_94 (by decide) rfl ?_
                refine E_callV (as := [(0, 4), (0, 0)]) 98 dX12_readProduct_95 cf_X12_emits mw_1483 mw_1485 mw_63 ac_88 (by decide) cl_X12 rfl rfl (Nat.le_of_ble_eq_true rfl) (Nat.le_of_ble_eq_true rfl) ⟨Nat.le_refl _, Nat.le_refl _⟩ rfl (w.mono (fun r32 σ31 w => ?_))
                show XX g true (d + 1) P_X12_readProduct 98 [(2, 88), (0, r4)] [] 136 σ31 136 Q
                refine E_goto 10 dX12_readProduct_98 rfl ?_
                refine XX.fg [1] [(2, 88), (9, 0)] rfl ?_
                with_reducible exact w
            · have w := w.2 h
              refine E_iconst 83 dX12_readProduct_82 (by decide) rfl ?_
              exact E_iret dX12_readProduct_83 rfl rfl w
          · have w := w.2 h
            refine E_aload_n 69 dX12_readProduct_68 rfl (ac_88.bnd) rfl ?_
            refine E_iconst 70 dX12_readProduct_69 (by decide) rfl ?_
            refine E_callV (as := [(0, 2)]) 73 dX12_readProduct_70 cf_X12_errs mw_1435 mw_1437 mw_51 ac_88 (by decide) cl_X12 rfl rfl (Nat.le_of_ble_eq_true rfl) (Nat.le_of_ble_eq_true rfl) ⟨Nat.le_refl _, Nat.le_refl _⟩ rfl (w.mono (fun r34 σ33 w => ?_))
            show XX g true (d + 1) P_X12_readProduct 73 [(2, 88), (0, r4)] [(0, r34)] 136 σ33 136 Q
            exact E_iret dX12_readProduct_73 rfl rfl w
      · have w := w.2 h
        refine E_aload_n 52 dX12_readProduct_51 rfl (ac_88.bnd) rfl ?_
        refine E_iconst 53 dX12_readProduct_52 (by decide) rfl ?_
        refine E_callV (as := [(0, 1)]) 56 dX12_readProduct_53 cf_X12_errs mw_1435 mw_1437 mw_51 ac_88 (by decide) cl_X12 rfl rfl (Nat.le_of_ble_eq_true rfl) (Nat.le_of_ble_eq_true rfl) ⟨Nat.le_refl _, Nat.le_refl _⟩ rfl (w.mono (fun r36 σ35 w => ?_))
        show XX g true (d + 1) P_X12_readProduct 56 [(2, 88), (0, r4)] [(0, r36)] 136 σ35 136 Q
        exact E_iret dX12_readProduct_56 rfl rfl w
  · have w := w.2 h
    refine E_aload_n 20 dX12_readProduct_19 rfl (ac_88.bnd) rfl ?_
    refine E_bipush 22 dX12_readProduct_20 (by decide) rfl ?_
    refine E_callV (as := [(0, 47)]) 25 dX12_readProduct_22 cf_X12_isSign mw_1455 mw_1457 mw_56 ac_88 (by decide) cl_X12 rfl rfl (Nat.le_of_ble_eq_true rfl) (Nat.le_of_ble_eq_true rfl) ⟨Nat.le_refl _, Nat.le_refl _⟩ rfl (w.mono (fun r38 σ37 w => ?_))
    show XX g true (d + 1) P_X12_readProduct 25 [(2, 88), (9, 0)] [(0, r38)] 136 σ37 136 Q
    refine E_if_eq 28 101 dX12_readProduct_25 rfl rfl (fun h => ?_) (fun h => ?_)
    · have w := w.1 h
      refine E_iconst 102 dX12_readProduct_101 (by decide) rfl ?_
      exact E_iret dX12_readProduct_102 rfl rfl w
    · have w := w.2 h
      refine E_aload_n 29 dX12_readProduct_28 rfl (ac_88.bnd) rfl ?_
      refine E_bipush 31 dX12_readProduct_29 (by decide) rfl ?_
      refine E_callV (as := [(0, 42)]) 34 dX12_readProduct_31 cf_X12_isSign mw_1455 mw_1457 mw_56 ac_88 (by decide) cl_X12 rfl rfl (Nat.le_of_ble_eq_true rfl) (Nat.le_of_ble_eq_true rfl) ⟨Nat.le_refl _, Nat.le_refl _⟩ rfl (w.mono (fun r40 σ39 w => ?_))
      show XX g true (d + 1) P_X12_readProduct 34 [(2, 88), (9, 0)] [(0, r40)] 136 σ39 136 Q
      refine E_istore_n (ls' := [(2, 88), (0, r40)]) 35 dX12_readProduct_34 (by decide) rfl rfl ?_
      refine E_aload_n 36 dX12_readProduct_35 rfl (ac_88.bnd) rfl ?_
      refine E_callV (as := []) 39 dX12_readProduct_36 cf_X12_reads mw_1407 mw_1409 mw_44 ac_88 (by decide) cl_X12 rfl rfl (Nat.le_of_ble_eq_true rfl) (Nat.le_of_ble_eq_true rfl) ⟨Nat.le_refl _, Nat.le_refl _⟩ rfl (w.mono (fun r42 σ41 w => ?_))
      show XX g true (d + 1) P_X12_readProduct 39 [(2, 88), (0, r40)] [] 136 σ41 136 Q
      refine E_iload_n 40 dX12_readProduct_39 rfl rfl ?_
      refine E_if_ne 43 57 dX12_readProduct_40 rfl rfl (fun h => ?_) (fun h => ?_)
      · have w := w.1 h
        refine E_iload_n 58 dX12_readProduct_57 rfl rfl ?_
        refine E_if_ne 61 74 dX12_readProduct_58 rfl rfl (fun h => ?_) (fun h => ?_)
        · have w := w.1 h
          refine E_aload_n 75 dX12_readProduct_74 rfl (ac_88.bnd) rfl ?_
          refine E_callV (as := []) 78 dX12_readProduct_75 cf_X12_readUnit mw_1475 mw_1477 mw_61 ac_88 (by decide) cl_X12 rfl rfl (Nat.le_of_ble_eq_true rfl) (Nat.le_of_ble_eq_true rfl) ⟨Nat.le_refl _, Nat.le_refl _⟩ rfl (w.mono (fun r44 σ43 w => ?_))
          show XX g true (d + 1) P_X12_readProduct 78 [(2, 88), (0, r40)] [(0, r44)] 136 σ43 136 Q
          refine E_iconst 79 dX12_readProduct_78 (by decide) rfl ?_
          refine E_icmp_ne 82 84 dX12_readProduct_79 rfl rfl (fun h => ?_) (fun h => ?_)
          · have w := w.1 h
            refine E_aload_n 85 dX12_readProduct_84 rfl (ac_88.bnd) rfl ?_
            refine E_iload_n 86 dX12_readProduct_85 rfl rfl ?_
            refine E_if_eq 89 93 dX12_readProduct_86 rfl rfl (fun h => ?_) (fun h => ?_)
            · have w := w.1 h
              refine E_iconst 94 dX12_readProduct_93 (by decide) rfl ?_
              refine E_iconst 95 dX12_readProduct_94 (by decide) rfl ?_
              refine E_callV (as := [(0, 5), (0, 0)]) 98 dX12_readProduct_95 cf_X12_emits mw_1483 mw_1485 mw_63 ac_88 (by decide) cl_X12 rfl rfl (Nat.le_of_ble_eq_true rfl) (Nat.le_of_ble_eq_true rfl) ⟨Nat.le_refl _, Nat.le_refl _⟩ rfl (w.mono (fun r46 σ45 w => ?_))
              show XX g true (d + 1) P_X12_readProduct 98 [(2, 88), (0, r40)] [] 136 σ45 136 Q
              refine E_goto 10 dX12_readProduct_98 rfl ?_
              refine XX.fg [1] [(2, 88), (9, 0)] rfl ?_
              with_reducible exact w
            · have w := w.2 h
              refine E_iconst 90 dX12_readProduct_89 (by decide) rfl ?_
              refine E_goto 94 dX12_readProduct_90 rfl ?_
              refine E_iconst 95 dX12_readProduct_94 (by decide) rfl ?_
              refine E_callV (as := [(0, 4), (0, 0)]) 98 dX12_readProduct_95 cf_X12_emits mw_1483 mw_1485 mw_63 ac_88 (by decide) cl_X12 rfl rfl (Nat.le_of_ble_eq_true rfl) (Nat.le_of_ble_eq_true rfl) ⟨Nat.le_refl _, Nat.le_refl _⟩ rfl (w.mono (fun r48 σ47 w => ?_))
              show XX g true (d + 1) P_X12_readProduct 98 [(2, 88), (0, r40)] [] 136 σ47 136 Q
              refine E_goto 10 dX12_readProduct_98 rfl ?_
              refine XX.fg [1] [(2, 88), (9, 0)] rfl ?_
              with_reducible exact w
          · have w := w.2 h
            refine E_iconst 83 dX12_readProduct_82 (by decide) rfl ?_
            exact E_iret dX12_readProduct_83 rfl rfl w
        · have w := w.2 h
          refine E_aload_n 62 dX12_readProduct_61 rfl (ac_88.bnd) rfl ?_
          refine E_get 23 65 dX12_readProduct_62 fl_X12_211 ac_88 rfl (by decide) rfl rfl ?_
          refine E_if_ne 68 74 dX12_readProduct_65 rfl rfl (fun h => ?_) (fun h => ?_)
          · have w := w.1 h
            refine E_aload_n 75 dX12_readProduct_74 rfl (ac_88.bnd) rfl ?_
            refine E_callV (as := []) 78 dX12_readProduct_75 cf_X12_readUnit mw_1475 mw_1477 mw_61 ac_88 (by decide) cl_X12 rfl rfl (Nat.le_of_ble_eq_true rfl) (Nat.le_of_ble_eq_true rfl) ⟨Nat.le_refl _, Nat.le_refl _⟩ rfl (w.mono (fun r50 σ49 w => ?_))
            show XX g true (d + 1) P_X12_readProduct 78 [(2, 88), (0, r40)] [(0, r50)] 136 σ49 136 Q
            refine E_iconst 79 dX12_readProduct_78 (by decide) rfl ?_
            refine E_icmp_ne 82 84 dX12_readProduct_79 rfl rfl (fun h => ?_) (fun h => ?_)
            · have w := w.1 h
              refine E_aload_n 85 dX12_readProduct_84 rfl (ac_88.bnd) rfl ?_
              refine E_iload_n 86 dX12_readProduct_85 rfl rfl ?_
              refine E_if_eq 89 93 dX12_readProduct_86 rfl rfl (fun h => ?_) (fun h => ?_)
              · have w := w.1 h
                refine E_iconst 94 dX12_readProduct_93 (by decide) rfl ?_
                refine E_iconst 95 dX12_readProduct_94 (by decide) rfl ?_
                refine E_callV (as := [(0, 5), (0, 0)]) 98 dX12_readProduct_95 cf_X12_emits mw_1483 mw_1485 mw_63 ac_88 (by decide) cl_X12 rfl rfl (Nat.le_of_ble_eq_true rfl) (Nat.le_of_ble_eq_true rfl) ⟨Nat.le_refl _, Nat.le_refl _⟩ rfl (w.mono (fun r52 σ51 w => ?_))
                show XX g true (d + 1) P_X12_readProduct 98 [(2, 88), (0, r40)] [] 136 σ51 136 Q
                refine E_goto 10 dX12_readProduct_98 rfl ?_
                refine XX.fg [1] [(2, 88), (9, 0)] rfl ?_
                with_reducible exact w
              · have w := w.2 h
                refine E_iconst 90 dX12_readProduct_89 (by decide) rfl ?_
                refine E_goto 94 dX12_readProduct_90 rfl ?_
                refine E_iconst 95 dX12_readProduct_94 (by decide) rfl ?_
                refine E_callV (as := [(0, 4), (0, 0)]) 98 dX12_readProduct_95 cf_X12_emits mw_1483 mw_1485 mw_63 ac_88 (by decide) cl_X12 rfl rfl (Nat.le_of_ble_eq_true rfl) (Nat.le_of_ble_eq_true rfl) ⟨Nat.le_refl _, Nat.le_refl _⟩ rfl (w.mono (fun r54 σ53 w => ?_))
                show XX g true (d + 1) P_X12_readProduct 98 [(2, 88), (0, r40)] [] 136 σ53 136 Q
                refine E_goto 10 dX12_readProduct_98 rfl ?_
                refine XX.fg [1] [(2, 88), (9, 0)] rfl ?_
                with_reducible exact w
            · have w := w.2 h
              refine E_iconst 83 dX12_readProduct_82 (by decide) rfl ?_
              exact E_iret dX12_readProduct_83 rfl rfl w
          · have w := w.2 h
            refine E_aload_n 69 dX12_readProduct_68 rfl (ac_88.bnd) rfl ?_
            refine E_iconst 70 dX12_readProduct_69 (by decide) rfl ?_
            refine E_callV (as := [(0, 2)]) 73 dX12_readProduct_70 cf_X12_errs mw_1435 mw_1437 mw_51 ac_88 (by decide) cl_X12 rfl rfl (Nat.le_of_ble_eq_true rfl) (Nat.le_of_ble_eq_true rfl) ⟨Nat.le_refl _, Nat.le_refl _⟩ rfl (w.mono (fun r56 σ55 w => ?_))
            show XX g true (d + 1) P_X12_readProduct 73 [(2, 88), (0, r40)] [(0, r56)] 136 σ55 136 Q
            exact E_iret dX12_readProduct_73 rfl rfl w
      · have w := w.2 h
        refine E_aload_n 44 dX12_readProduct_43 rfl (ac_88.bnd) rfl ?_
        refine E_get 22 47 dX12_readProduct_44 fl_X12_208 ac_88 rfl (by decide) rfl rfl ?_
        refine E_iconst 48 dX12_readProduct_47 (by decide) rfl ?_
        refine E_icmp_eq 51 57 dX12_readProduct_48 rfl rfl (fun h => ?_) (fun h => ?_)
        · have w := w.1 h
          refine E_iload_n 58 dX12_readProduct_57 rfl rfl ?_
          refine E_if_ne 61 74 dX12_readProduct_58 rfl rfl (fun h => ?_) (fun h => ?_)
          · have w := w.1 h
            refine E_aload_n 75 dX12_readProduct_74 rfl (ac_88.bnd) rfl ?_
            refine E_callV (as := []) 78 dX12_readProduct_75 cf_X12_readUnit mw_1475 mw_1477 mw_61 ac_88 (by decide) cl_X12 rfl rfl (Nat.le_of_ble_eq_true rfl) (Nat.le_of_ble_eq_true rfl) ⟨Nat.le_refl _, Nat.le_refl _⟩ rfl (w.mono (fun r58 σ57 w => ?_))
            show XX g true (d + 1) P_X12_readProduct 78 [(2, 88), (0, r40)] [(0, r58)] 136 σ57 136 Q
            refine E_iconst 79 dX12_readProduct_78 (by decide) rfl ?_
            refine E_icmp_ne 82 84 dX12_readProduct_79 rfl rfl (fun h => ?_) (fun h => ?_)
            · have w := w.1 h
              refine E_aload_n 85 dX12_readProduct_84 rfl (ac_88.bnd) rfl ?_
              refine E_iload_n 86 dX12_readProduct_85 rfl rfl ?_
              refine E_if_eq 89 93 dX12_readProduct_86 rfl rfl (fun h => ?_) (fun h => ?_)
              · have w := w.1 h
                refine E_iconst 94 dX12_readProduct_93 (by decide) rfl ?_
                refine E_iconst 95 dX12_readProduct_94 (by decide) rfl ?_
                refine E_callV (as := [(0, 5), (0, 0)]) 98 dX12_readProduct_95 cf_X12_emits mw_1483 mw_1485 mw_63 ac_88 (by decide) cl_X12 rfl rfl (Nat.le_of_ble_eq_true rfl) (Nat.le_of_ble_eq_true rfl) ⟨Nat.le_refl _, Nat.le_refl _⟩ rfl (w.mono (fun r60 σ59 w => ?_))
                show XX g true (d + 1) P_X12_readProduct 98 [(2, 88), (0, r40)] [] 136 σ59 136 Q
                refine E_goto 10 dX12_readProduct_98 rfl ?_
                refine XX.fg [1] [(2, 88), (9, 0)] rfl ?_
                with_reducible exact w
              · have w := w.2 h
                refine E_iconst 90 dX12_readProduct_89 (by decide) rfl ?_
                refine E_goto 94 dX12_readProduct_90 rfl ?_
                refine E_iconst 95 dX12_readProduct_94 (by decide) rfl ?_
                refine E_callV (as := [(0, 4), (0, 0)]) 98 dX12_readProduct_95 cf_X12_emits mw_1483 mw_1485 mw_63 ac_88 (by decide) cl_X12 rfl rfl (Nat.le_of_ble_eq_true rfl) (Nat.le_of_ble_eq_true rfl) ⟨Nat.le_refl _, Nat.le_refl _⟩ rfl (w.mono (fun r62 σ61 w => ?_))
                show XX g true (d + 1) P_X12_readProduct 98 [(2, 88), (0, r40)] [] 136 σ61 136 Q
                refine E_goto 10 dX12_readProduct_98 rfl ?_
                refine XX.fg [1] [(2, 88), (9, 0)] rfl ?_
                with_reducible exact w
            · have w := w.2 h
              refine E_iconst 83 dX12_readProduct_82 (by decide) rfl ?_
              exact E_iret dX12_readProduct_83 rfl rfl w
          · have w := w.2 h
            refine E_aload_n 62 dX12_readProduct_61 rfl (ac_88.bnd) rfl ?_
            refine E_get 23 65 dX12_readProduct_62 fl_X12_211 ac_88 rfl (by decide) rfl rfl ?_
            refine E_if_ne 68 74 dX12_readProduct_65 rfl rfl (fun h => ?_) (fun h => ?_)
            · have w := w.1 h
              refine E_aload_n 75 dX12_readProduct_74 rfl (ac_88.bnd) rfl ?_
              refine E_callV (as := []) 78 dX12_readProduct_75 cf_X12_readUnit mw_1475 mw_1477 mw_61 ac_88 (by decide) cl_X12 rfl rfl (Nat.le_of_ble_eq_true rfl) (Nat.le_of_ble_eq_true rfl) ⟨Nat.le_refl _, Nat.le_refl _⟩ rfl (w.mono (fun r64 σ63 w => ?_))
              show XX g true (d + 1) P_X12_readProduct 78 [(2, 88), (0, r40)] [(0, r64)] 136 σ63 136 Q
              refine E_iconst 79 dX12_readProduct_78 (by decide) rfl ?_
              refine E_icmp_ne 82 84 dX12_readProduct_79 rfl rfl (fun h => ?_) (fun h => ?_)
              · have w := w.1 h
                refine E_aload_n 85 dX12_readProduct_84 rfl (ac_88.bnd) rfl ?_
                refine E_iload_n 86 dX12_readProduct_85 rfl rfl ?_
                refine E_if_eq 89 93 dX12_readProduct_86 rfl rfl (fun h => ?_) (fun h => ?_)
                · have w := w.1 h
                  refine E_iconst 94 dX12_readProduct_93 (by decide) rfl ?_
                  refine E_iconst 95 dX12_readProduct_94 (by decide) rfl ?_
                  refine E_callV (as := [(0, 5), (0, 0)]) 98 dX12_readProduct_95 cf_X12_emits mw_1483 mw_1485 mw_63 ac_88 (by decide) cl_X12 rfl rfl (Nat.le_of_ble_eq_true rfl) (Nat.le_of_ble_eq_true rfl) ⟨Nat.le_refl _, Nat.le_refl _⟩ rfl (w.mono (fun r66 σ65 w => ?_))
                  show XX g true (d + 1) P_X12_readProduct 98 [(2, 88), (0, r40)] [] 136 σ65 136 Q
                  refine E_goto 10 dX12_readProduct_98 rfl ?_
                  refine XX.fg [1] [(2, 88), (9, 0)] rfl ?_
                  with_reducible exact w
                · have w := w.2 h
                  refine E_iconst 90 dX12_readProduct_89 (by decide) rfl ?_
                  refine E_goto 94 dX12_readProduct_90 rfl ?_
                  refine E_iconst 95 dX12_readProduct_94 (by decide) rfl ?_
                  refine E_callV (as := [(0, 4), (0, 0)]) 98 dX12_readProduct_95 cf_X12_emits mw_1483 mw_1485 mw_63 ac_88 (by decide) cl_X12 rfl rfl (Nat.le_of_ble_eq_true rfl) (Nat.le_of_ble_eq_true rfl) ⟨Nat.le_refl _, Nat.le_refl _⟩ rfl (w.mono (fun r68 σ67 w => ?_))
                  show XX g true (d + 1) P_X12_readProduct 98 [(2, 88), (0, r40)] [] 136 σ67 136 Q
                  refine E_goto 10 dX12_readProduct_98 rfl ?_
                  refine XX.fg [1] [(2, 88), (9, 0)] rfl ?_
                  with_reducible exact w
              · have w := w.2 h
                refine E_iconst 83 dX12_readProduct_82 (by decide) rfl ?_
                exact E_iret dX12_readProduct_83 rfl rfl w
            · have w := w.2 h
              refine E_aload_n 69 dX12_readProduct_68 rfl (ac_88.bnd) rfl ?_
              refine E_iconst 70 dX12_readProduct_69 (by decide) rfl ?_
              refine E_callV (as := [(0, 2)]) 73 dX12_readProduct_70 cf_X12_errs mw_1435 mw_1437 mw_51 ac_88 (by decide) cl_X12 rfl rfl (Nat.le_of_ble_eq_true rfl) (Nat.le_of_ble_eq_true rfl) ⟨Nat.le_refl _, Nat.le_refl _⟩ rfl (w.mono (fun r70 σ69 w => ?_))
              show XX g true (d + 1) P_X12_readProduct 73 [(2, 88), (0, r40)] [(0, r70)] 136 σ69 136 Q
              exact E_iret dX12_readProduct_73 rfl rfl w
        · have w := w.2 h
          refine E_aload_n 52 dX12_readProduct_51 rfl (ac_88.bnd) rfl ?_
          refine E_iconst 53 dX12_readProduct_52 (by decide) rfl ?_
          refine E_callV (as := [(0, 1)]) 56 dX12_readProduct_53 cf_X12_errs mw_1435 mw_1437 mw_51 ac_88 (by decide) cl_X12 rfl rfl (Nat.le_of_ble_eq_true rfl) (Nat.le_of_ble_eq_true rfl) ⟨Nat.le_refl _, Nat.le_refl _⟩ rfl (w.mono (fun r72 σ71 w => ?_))
          show XX g true (d + 1) P_X12_readProduct 56 [(2, 88), (0, r40)] [(0, r72)] 136 σ71 136 Q
          exact E_iret dX12_readProduct_56 rfl rfl w
theorem B_X12_readSum_0 {g : PG} {d : Nat} {σ : PS} {Q : Int → PS → Prop}  (w : XX g true d P_X12_readProduct 0 [(2, 88), (9, 0)] [] 136 σ 136 (fun r2 σ1 => ((r2 ≠ (-1) → (XX g true (d + 1) P_X12_readSum 10 [(2, 88), (9, 0)] [] 136 σ1 136 Q)) ∧ (r2 = (-1) → Q (-1) σ1)))) : XX g true (d + 1) P_X12_readSum 0 [(2, 88), (9, 0)] [] 136 σ 136 Q := by
  refine E_aload_n 1 dX12_readSum_0 rfl (ac_88.bnd) rfl ?_
  refine E_callV (as := []) 4 dX12_readSum_1 cf_X12_readProduct mw_1471 mw_1473 mw_60 ac_88 (by decide) cl_X12 rfl rfl (Nat.le_of_ble_eq_true rfl) (Nat.le_of_ble_eq_true rfl) ⟨Nat.le_refl _, Nat.le_refl _⟩ rfl (w.mono (fun r2 σ1 w => ?_))
  show XX g true (d + 1) P_X12_readSum 4 [(2, 88), (9, 0)] [(0, r2)] 136 σ1 136 Q
  refine E_iconst 5 dX12_readSum_4 (by decide) rfl ?_
  refine E_icmp_ne 8 10 dX12_readSum_5 rfl rfl (fun h => ?_) (fun h => ?_)
  · have w := w.1 h
    with_reducible exact w
  · have w := w.2 h
    refine E_iconst 9 dX12_readSum_8 (by decide) rfl ?_
    exact E_iret dX12_readSum_9 rfl rfl w
theorem B_X12_readSum_10 {g : PG} {d : Nat} {σ : PS} {Q : Int → PS → Prop}  (w : XX g true d P_X12_isSign 0 [(2, 88), (0, 43)] [] 136 σ 136 (fun r2 σ1 => ((r2 ≠ 0 → ((σ1 88 23 ≠ 43 → XX g true d P_X12_reads 0 [(2, 88), (9, 0)] [] 136 σ1 136 (fun _ σ3 => XX g true d P_X12_readProduct 0 [(2, 88), (9, 0)] [] 136 σ3 136 (fun r6 σ5 => ((r6 ≠ (-1) → XX g true d P_X12_emits 0 [(2, 88), (0, 3), (0, 0)] [] 136 σ5 136 (fun _ σ7 => (XX g true (d + 1) P_X12_readSum 10 [(2, 88), (9, 0)] [] 136 σ7 136 Q))) ∧ (r6 = (-1) → Q (-1) σ5))))) ∧ (σ1 88 23 = 43 → XX g true d P_X12_reads 0 [(2, 88), (9, 0)] [] 136 σ1 136 (fun _ σ9 => XX g true d P_X12_readProduct 0 [(2, 88), (9, 0)] [] 136 σ9 136 (fun r12 σ11 => ((r12 ≠ (-1) → XX g true d P_X12_emits 0 [(2, 88), (0, 2), (0, 0)] [] 136 σ11 136 (fun _ σ13 => (XX g true (d + 1) P_X12_readSum 10 [(2, 88), (9, 0)] [] 136 σ13 136 Q))) ∧ (r12 = (-1) → Q (-1) σ11))))))) ∧ (r2 = 0 → XX g true d P_X12_isSign 0 [(2, 88), (0, 45)] [] 136 σ1 136 (fun r16 σ15 => ((r16 = 0 → Q 0 σ15) ∧ (r16 ≠ 0 → ((σ15 88 23 ≠ 43 → XX g true d P_X12_reads 0 [(2, 88), (9, 0)] [] 136 σ15 136 (fun _ σ17 => XX g true d P_X12_readProduct 0 [(2, 88), (9, 0)] [] 136 σ17 136 (fun r20 σ19 => ((r20 ≠ (-1) → XX g true d P_X12_emits 0 [(2, 88), (0, 3), (0, 0)] [] 136 σ19 136 (fun _ σ21 => (XX g true (d + 1) P_X12_readSum 10 [(2, 88), (9, 0)] [] 136 σ21 136 Q))) ∧ (r20 = (-1) → Q (-1) σ19))))) ∧ (σ15 88 23 = 43 → XX g true d P_X12_reads 0 [(2, 88), (9, 0)] [] 136 σ15 136 (fun _ σ23 => XX g true d P_X12_readProduct 0 [(2, 88), (9, 0)] [] 136 σ23 136 (fun r26 σ25 => ((r26 ≠ (-1) → XX g true d P_X12_emits 0 [(2, 88), (0, 2), (0, 0)] [] 136 σ25 136 (fun _ σ27 => (XX g true (d + 1) P_X12_readSum 10 [(2, 88), (9, 0)] [] 136 σ27 136 Q))) ∧ (r26 = (-1) → Q (-1) σ25))))))))))))) : XX g true (d + 1) P_X12_readSum 10 [(2, 88), (9, 0)] [] 136 σ 136 Q := by
  refine E_aload_n 11 dX12_readSum_10 rfl (ac_88.bnd) rfl ?_
  refine E_bipush 13 dX12_readSum_11 (by decide) rfl ?_
  refine E_callV (as := [(0, 43)]) 16 dX12_readSum_13 cf_X12_isSign mw_1455 mw_1457 mw_56 ac_88 (by decide) cl_X12 rfl rfl (Nat.le_of_ble_eq_true rfl) (Nat.le_of_ble_eq_true rfl) ⟨Nat.le_refl _, Nat.le_refl _⟩ rfl (w.mono (fun r2 σ1 w => ?_))
  show XX g true (d + 1) P_X12_readSum 16 [(2, 88), (9, 0)] [(0, r2)] 136 σ1 136 Q
  refine E_if_ne 19 28 dX12_readSum_16 rfl rfl (fun h => ?_) (fun h => ?_)
  · have w := w.1 h
    refine E_aload_n 29 dX12_readSum_28 rfl (ac_88.bnd) rfl ?_
    refine E_get 23 32 dX12_readSum_29 fl_X12_211 ac_88 rfl (by decide) rfl rfl ?_
    refine E_bipush 34 dX12_readSum_32 (by decide) rfl ?_
    refine E_icmp_ne 37 41 dX12_readSum_34 rfl rfl (fun h => ?_) (fun h => ?_)
    · have w := w.1 h
      refine E_iconst 42 dX12_readSum_41 (by decide) rfl ?_
      refine E_istore_n (ls' := [(2, 88), (0, 3)]) 43 dX12_readSum_42 (by decide) rfl rfl ?_
      refine E_aload_n 44 dX12_readSum_43 rfl (ac_88.bnd) rfl ?_
      refine E_callV (as := []) 47 dX12_readSum_44 cf_X12_reads mw_1407 mw_1409 mw_44 ac_88 (by decide) cl_X12 rfl rfl (Nat.le_of_ble_eq_true rfl) (Nat.le_of_ble_eq_true rfl) ⟨Nat.le_refl _, Nat.le_refl _⟩ rfl (w.mono (fun r4 σ3 w => ?_))
      show XX g true (d + 1) P_X12_readSum 47 [(2, 88), (0, 3)] [] 136 σ3 136 Q
      refine E_aload_n 48 dX12_readSum_47 rfl (ac_88.bnd) rfl ?_
      refine E_callV (as := []) 51 dX12_readSum_48 cf_X12_readProduct mw_1471 mw_1473 mw_60 ac_88 (by decide) cl_X12 rfl rfl (Nat.le_of_ble_eq_true rfl) (Nat.le_of_ble_eq_true rfl) ⟨Nat.le_refl _, Nat.le_refl _⟩ rfl (w.mono (fun r6 σ5 w => ?_))
      show XX g true (d + 1) P_X12_readSum 51 [(2, 88), (0, 3)] [(0, r6)] 136 σ5 136 Q
      refine E_iconst 52 dX12_readSum_51 (by decide) rfl ?_
      refine E_icmp_ne 55 57 dX12_readSum_52 rfl rfl (fun h => ?_) (fun h => ?_)
      · have w := w.1 h
        refine E_aload_n 58 dX12_readSum_57 rfl (ac_88.bnd) rfl ?_
        refine E_iload_n 59 dX12_readSum_58 rfl rfl ?_
        refine E_iconst 60 dX12_readSum_59 (by decide) rfl ?_
        refine E_callV (as := [(0, 3), (0, 0)]) 63 dX12_readSum_60 cf_X12_emits mw_1483 mw_1485 mw_63 ac_88 (by decide) cl_X12 rfl rfl (Nat.le_of_ble_eq_true rfl) (Nat.le_of_ble_eq_true rfl) ⟨Nat.le_refl _, Nat.le_refl _⟩ rfl (w.mono (fun r8 σ7 w => ?_))
        show XX g true (d + 1) P_X12_readSum 63 [(2, 88), (0, 3)] [] 136 σ7 136 Q
        refine E_goto 10 dX12_readSum_63 rfl ?_
        refine XX.fg [1] [(2, 88), (9, 0)] rfl ?_
        with_reducible exact w
      · have w := w.2 h
        refine E_iconst 56 dX12_readSum_55 (by decide) rfl ?_
        exact E_iret dX12_readSum_56 rfl rfl w
    · have w := w.2 h
      refine E_iconst 38 dX12_readSum_37 (by decide) rfl ?_
      refine E_goto 42 dX12_readSum_38 rfl ?_
      refine E_istore_n (ls' := [(2, 88), (0, 2)]) 43 dX12_readSum_42 (by decide) rfl rfl ?_
      refine E_aload_n 44 dX12_readSum_43 rfl (ac_88.bnd) rfl ?_
      refine E_callV (as := []) 47 dX12_readSum_44 cf_X12_reads mw_1407 mw_1409 mw_44 ac_88 (by decide) cl_X12 rfl rfl (Nat.le_of_ble_eq_true rfl) (Nat.le_of_ble_eq_true rfl) ⟨Nat.le_refl _, Nat.le_refl _⟩ rfl (w.mono (fun r10 σ9 w => ?_))
      show XX g true (d + 1) P_X12_readSum 47 [(2, 88), (0, 2)] [] 136 σ9 136 Q
      refine E_aload_n 48 dX12_readSum_47 rfl (ac_88.bnd) rfl ?_
      refine E_callV (as := []) 51 dX12_readSum_48 cf_X12_readProduct mw_1471 mw_1473 mw_60 ac_88 (by decide) cl_X12 rfl rfl (Nat.le_of_ble_eq_true rfl) (Nat.le_of_ble_eq_true rfl) ⟨Nat.le_refl _, Nat.le_refl _⟩ rfl (w.mono (fun r12 σ11 w => ?_))
      show XX g true (d + 1) P_X12_readSum 51 [(2, 88), (0, 2)] [(0, r12)] 136 σ11 136 Q
      refine E_iconst 52 dX12_readSum_51 (by decide) rfl ?_
      refine E_icmp_ne 55 57 dX12_readSum_52 rfl rfl (fun h => ?_) (fun h => ?_)
      · have w := w.1 h
        refine E_aload_n 58 dX12_readSum_57 rfl (ac_88.bnd) rfl ?_
        refine E_iload_n 59 dX12_readSum_58 rfl rfl ?_
        refine E_iconst 60 dX12_readSum_59 (by decide) rfl ?_
        refine E_callV (as := [(0, 2), (0, 0)]) 63 dX12_readSum_60 cf_X12_emits mw_1483 mw_1485 mw_63 ac_88 (by decide) cl_X12 rfl rfl (Nat.le_of_ble_eq_true rfl) (Nat.le_of_ble_eq_true rfl) ⟨Nat.le_refl _, Nat.le_refl _⟩ rfl (w.mono (fun r14 σ13 w => ?_))
        show XX g true (d + 1) P_X12_readSum 63 [(2, 88), (0, 2)] [] 136 σ13 136 Q
        refine E_goto 10 dX12_readSum_63 rfl ?_
        refine XX.fg [1] [(2, 88), (9, 0)] rfl ?_
        with_reducible exact w
      · have w := w.2 h
        refine E_iconst 56 dX12_readSum_55 (by decide) rfl ?_
        exact E_iret dX12_readSum_56 rfl rfl w
  · have w := w.2 h
    refine E_aload_n 20 dX12_readSum_19 rfl (ac_88.bnd) rfl ?_
    refine E_bipush 22 dX12_readSum_20 (by decide) rfl ?_
    refine E_callV (as := [(0, 45)]) 25 dX12_readSum_22 cf_X12_isSign mw_1455 mw_1457 mw_56 ac_88 (by decide) cl_X12 rfl rfl (Nat.le_of_ble_eq_true rfl) (Nat.le_of_ble_eq_true rfl) ⟨Nat.le_refl _, Nat.le_refl _⟩ rfl (w.mono (fun r16 σ15 w => ?_))
    show XX g true (d + 1) P_X12_readSum 25 [(2, 88), (9, 0)] [(0, r16)] 136 σ15 136 Q
    refine E_if_eq 28 66 dX12_readSum_25 rfl rfl (fun h => ?_) (fun h => ?_)
    · have w := w.1 h
      refine E_iconst 67 dX12_readSum_66 (by decide) rfl ?_
      exact E_iret dX12_readSum_67 rfl rfl w
    · have w := w.2 h
      refine E_aload_n 29 dX12_readSum_28 rfl (ac_88.bnd) rfl ?_
      refine E_get 23 32 dX12_readSum_29 fl_X12_211 ac_88 rfl (by decide) rfl rfl ?_
      refine E_bipush 34 dX12_readSum_32 (by decide) rfl ?_
      refine E_icmp_ne 37 41 dX12_readSum_34 rfl rfl (fun h => ?_) (fun h => ?_)
      · have w := w.1 h
        refine E_iconst 42 dX12_readSum_41 (by decide) rfl ?_
        refine E_istore_n (ls' := [(2, 88), (0, 3)]) 43 dX12_readSum_42 (by decide) rfl rfl ?_
        refine E_aload_n 44 dX12_readSum_43 rfl (ac_88.bnd) rfl ?_
        refine E_callV (as := []) 47 dX12_readSum_44 cf_X12_reads mw_1407 mw_1409 mw_44 ac_88 (by decide) cl_X12 rfl rfl (Nat.le_of_ble_eq_true rfl) (Nat.le_of_ble_eq_true rfl) ⟨Nat.le_refl _, Nat.le_refl _⟩ rfl (w.mono (fun r18 σ17 w => ?_))
        show XX g true (d + 1) P_X12_readSum 47 [(2, 88), (0, 3)] [] 136 σ17 136 Q
        refine E_aload_n 48 dX12_readSum_47 rfl (ac_88.bnd) rfl ?_
        refine E_callV (as := []) 51 dX12_readSum_48 cf_X12_readProduct mw_1471 mw_1473 mw_60 ac_88 (by decide) cl_X12 rfl rfl (Nat.le_of_ble_eq_true rfl) (Nat.le_of_ble_eq_true rfl) ⟨Nat.le_refl _, Nat.le_refl _⟩ rfl (w.mono (fun r20 σ19 w => ?_))
        show XX g true (d + 1) P_X12_readSum 51 [(2, 88), (0, 3)] [(0, r20)] 136 σ19 136 Q
        refine E_iconst 52 dX12_readSum_51 (by decide) rfl ?_
        refine E_icmp_ne 55 57 dX12_readSum_52 rfl rfl (fun h => ?_) (fun h => ?_)
        · have w := w.1 h
          refine E_aload_n 58 dX12_readSum_57 rfl (ac_88.bnd) rfl ?_
          refine E_iload_n 59 dX12_readSum_58 rfl rfl ?_
          refine E_iconst 60 dX12_readSum_59 (by decide) rfl ?_
          refine E_callV (as := [(0, 3), (0, 0)]) 63 dX12_readSum_60 cf_X12_emits mw_1483 mw_1485 mw_63 ac_88 (by decide) cl_X12 rfl rfl (Nat.le_of_ble_eq_true rfl) (Nat.le_of_ble_eq_true rfl) ⟨Nat.le_refl _, Nat.le_refl _⟩ rfl (w.mono (fun r22 σ21 w => ?_))
          show XX g true (d + 1) P_X12_readSum 63 [(2, 88), (0, 3)] [] 136 σ21 136 Q
          refine E_goto 10 dX12_readSum_63 rfl ?_
          refine XX.fg [1] [(2, 88), (9, 0)] rfl ?_
          with_reducible exact w
        · have w := w.2 h
          refine E_iconst 56 dX12_readSum_55 (by decide) rfl ?_
          exact E_iret dX12_readSum_56 rfl rfl w
      · have w := w.2 h
        refine E_iconst 38 dX12_readSum_37 (by decide) rfl ?_
        refine E_goto 42 dX12_readSum_38 rfl ?_
        refine E_istore_n (ls' := [(2, 88), (0, 2)]) 43 dX12_readSum_42 (by decide) rfl rfl ?_
        refine E_aload_n 44 dX12_readSum_43 rfl (ac_88.bnd) rfl ?_
        refine E_callV (as := []) 47 dX12_readSum_44 cf_X12_reads mw_1407 mw_1409 mw_44 ac_88 (by decide) cl_X12 rfl rfl (Nat.le_of_ble_eq_true rfl) (Nat.le_of_ble_eq_true rfl) ⟨Nat.le_refl _, Nat.le_refl _⟩ rfl (w.mono (fun r24 σ23 w => ?_))
        show XX g true (d + 1) P_X12_readSum 47 [(2, 88), (0, 2)] [] 136 σ23 136 Q
        refine E_aload_n 48 dX12_readSum_47 rfl (ac_88.bnd) rfl ?_
        refine E_callV (as := []) 51 dX12_readSum_48 cf_X12_readProduct mw_1471 mw_1473 mw_60 ac_88 (by decide) cl_X12 rfl rfl (Nat.le_of_ble_eq_true rfl) (Nat.le_of_ble_eq_true rfl) ⟨Nat.le_refl _, Nat.le_refl _⟩ rfl (w.mono (fun r26 σ25 w => ?_))
        show XX g true (d + 1) P_X12_readSum 51 [(2, 88), (0, 2)] [(0, r26)] 136 σ25 136 Q
        refine E_iconst 52 dX12_readSum_51 (by decide) rfl ?_
        refine E_icmp_ne 55 57 dX12_readSum_52 rfl rfl (fun h => ?_) (fun h => ?_)
        · have w := w.1 h
          refine E_aload_n 58 dX12_readSum_57 rfl (ac_88.bnd) rfl ?_
          refine E_iload_n 59 dX12_readSum_58 rfl rfl ?_
          refine E_iconst 60 dX12_readSum_59 (by decide) rfl ?_
          refine E_callV (as := [(0, 2), (0, 0)]) 63 dX12_readSum_60 cf_X12_emits mw_1483 mw_1485 mw_63 ac_88 (by decide) cl_X12 rfl rfl (Nat.le_of_ble_eq_true rfl) (Nat.le_of_ble_eq_true rfl) ⟨Nat.le_refl _, Nat.le_refl _⟩ rfl (w.mono (fun r28 σ27 w => ?_))
          show XX g true (d + 1) P_X12_readSum 63 [(2, 88), (0, 2)] [] 136 σ27 136 Q
          refine E_goto 10 dX12_readSum_63 rfl ?_
          refine XX.fg [1] [(2, 88), (9, 0)] rfl ?_
          with_reducible exact w
        · have w := w.2 h
          refine E_iconst 56 dX12_readSum_55 (by decide) rfl ?_
          exact E_iret dX12_readSum_56 rfl rfl w
theorem B_X12_readCompared_0 {g : PG} {d : Nat} {σ : PS} {Q : Int → PS → Prop}  (w : XX g true d P_X12_readSum 0 [(2, 88), (9, 0)] [] 136 σ 136 (fun r2 σ1 => ((r2 ≠ (-1) → XX g true d P_X12_isSign 0 [(2, 88), (0, 60)] [] 136 σ1 136 (fun r4 σ3 => ((r4 ≠ 0 → ((σ3 88 23 ≠ 60 → ((σ3 88 23 ≠ 61 → XX g true d P_X12_reads 0 [(2, 88), (9, 0)] [] 136 σ3 136 (fun _ σ5 => XX g true d P_X12_readSum 0 [(2, 88), (9, 0)] [] 136 σ5 136 (fun r8 σ7 => ((r8 ≠ (-1) → XX g true d P_X12_emits 0 [(2, 88), (0, 8), (0, 0)] [] 136 σ7 136 (fun _ σ9 => Q 0 σ9)) ∧ (r8 = (-1) → Q (-1) σ7))))) ∧ (σ3 88 23 = 61 → XX g true d P_X12_reads 0 [(2, 88), (9, 0)] [] 136 σ3 136 (fun _ σ11 => XX g true d P_X12_readSum 0 [(2, 88), (9, 0)] [] 136 σ11 136 (fun r14 σ13 => ((r14 ≠ (-1) → XX g true d P_X12_emits 0 [(2, 88), (0, 7), (0, 0)] [] 136 σ13 136 (fun _ σ15 => Q 0 σ15)) ∧ (r14 = (-1) → Q (-1) σ13))))))) ∧ (σ3 88 23 = 60 → XX g true d P_X12_reads 0 [(2, 88), (9, 0)] [] 136 σ3 136 (fun _ σ17 => XX g true d P_X12_readSum 0 [(2, 88), (9, 0)] [] 136 σ17 136 (fun r20 σ19 => ((r20 ≠ (-1) → XX g true d P_X12_emits 0 [(2, 88), (0, 6), (0, 0)] [] 136 σ19 136 (fun _ σ21 => Q 0 σ21)) ∧ (r20 = (-1) → Q (-1) σ19))))))) ∧ (r4 = 0 → XX g true d P_X12_isSign 0 [(2, 88), (0, 61)] [] 136 σ3 136 (fun r24 σ23 => ((r24 ≠ 0 → ((σ23 88 23 ≠ 60 → ((σ23 88 23 ≠ 61 → XX g true d P_X12_reads 0 [(2, 88), (9, 0)] [] 136 σ23 136 (fun _ σ25 => XX g true d P_X12_readSum 0 [(2, 88), (9, 0)] [] 136 σ25 136 (fun r28 σ27 => ((r28 ≠ (-1) → XX g true d P_X12_emits 0 [(2, 88), (0, 8), (0, 0)] [] 136 σ27 136 (fun _ σ29 => Q 0 σ29)) ∧ (r28 = (-1) → Q (-1) σ27))))) ∧ (σ23 88 23 = 61 → XX g true d P_X12_reads 0 [(2, 88), (9, 0)] [] 136 σ23 136 (fun _ σ31 => XX g true d P_X12_readSum 0 [(2, 88), (9, 0)] [] 136 σ31 136 (fun r34 σ33 => ((r34 ≠ (-1) → XX g true d P_X12_emits 0 [(2, 88), (0, 7), (0, 0)] [] 136 σ33 136 (fun _ σ35 => Q 0 σ35)) ∧ (r34 = (-1) → Q (-1) σ33))))))) ∧ (σ23 88 23 = 60 → XX g true d P_X12_reads 0 [(2, 88), (9, 0)] [] 136 σ23 136 (fun _ σ37 => XX g true d P_X12_readSum 0 [(2, 88), (9, 0)] [] 136 σ37 136 (fun r40 σ39 => ((r40 ≠ (-1) → XX g true d P_X12_emits 0 [(2, 88), (0, 6), (0, 0)] [] 136 σ39 136 (fun _ σ41 => Q 0 σ41)) ∧ (r40 = (-1) → Q (-1) σ39))))))) ∧ (r24 = 0 → XX g true d P_X12_isSign 0 [(2, 88), (0, 62)] [] 136 σ23 136 (fun r44 σ43 => ((r44 ≠ 0 → ((σ43 88 23 ≠ 60 → ((σ43 88 23 ≠ 61 → XX g true d P_X12_reads 0 [(2, 88), (9, 0)] [] 136 σ43 136 (fun _ σ45 => XX g true d P_X12_readSum 0 [(2, 88), (9, 0)] [] 136 σ45 136 (fun r48 σ47 => ((r48 ≠ (-1) → XX g true d P_X12_emits 0 [(2, 88), (0, 8), (0, 0)] [] 136 σ47 136 (fun _ σ49 => Q 0 σ49)) ∧ (r48 = (-1) → Q (-1) σ47))))) ∧ (σ43 88 23 = 61 → XX g true d P_X12_reads 0 [(2, 88), (9, 0)] [] 136 σ43 136 (fun _ σ51 => XX g true d P_X12_readSum 0 [(2, 88), (9, 0)] [] 136 σ51 136 (fun r54 σ53 => ((r54 ≠ (-1) → XX g true d P_X12_emits 0 [(2, 88), (0, 7), (0, 0)] [] 136 σ53 136 (fun _ σ55 => Q 0 σ55)) ∧ (r54 = (-1) → Q (-1) σ53))))))) ∧ (σ43 88 23 = 60 → XX g true d P_X12_reads 0 [(2, 88), (9, 0)] [] 136 σ43 136 (fun _ σ57 => XX g true d P_X12_readSum 0 [(2, 88), (9, 0)] [] 136 σ57 136 (fun r60 σ59 => ((r60 ≠ (-1) → XX g true d P_X12_emits 0 [(2, 88), (0, 6), (0, 0)] [] 136 σ59 136 (fun _ σ61 => Q 0 σ61)) ∧ (r60 = (-1) → Q (-1) σ59))))))) ∧ (r44 = 0 → XX g true d P_X12_errs 0 [(2, 88), (0, 1)] [] 136 σ43 136 (fun r64 σ63 => Q r64 σ63))))))))))) ∧ (r2 = (-1) → Q (-1) σ1)))) : XX g true (d + 1) P_X12_readCompared 0 [(2, 88), (9, 0)] [] 136 σ 136 Q := by
  refine E_aload_n 1 dX12_readCompared_0 rfl (ac_88.bnd) rfl ?_
  refine E_callV (as := []) 4 dX12_readCompared_1 cf_X12_readSum mw_1467 mw_1469 mw_59 ac_88 (by decide) cl_X12 rfl rfl (Nat.le_of_ble_eq_true rfl) (Nat.le_of_ble_eq_true rfl) ⟨Nat.le_refl _, Nat.le_refl _⟩ rfl (w.mono (fun r2 σ1 w => ?_))
  show XX g true (d + 1) P_X12_readCompared 4 [(2, 88), (9, 0)] [(0, r2)] 136 σ1 136 Q
  refine E_iconst 5 dX12_readCompared_4 (by decide) rfl ?_
  refine E_icmp_ne 8 10 dX12_readCompared_5 rfl rfl (fun h => ?_) (fun h => ?_)
  · have w := w.1 h
    refine E_aload_n 11 dX12_readCompared_10 rfl (ac_88.bnd) rfl ?_
    refine E_bipush 13 dX12_readCompared_11 (by decide) rfl ?_
    refine E_callV (as := [(0, 60)]) 16 dX12_readCompared_13 cf_X12_isSign mw_1455 mw_1457 mw_56 ac_88 (by decide) cl_X12 rfl rfl (Nat.le_of_ble_eq_true rfl) (Nat.le_of_ble_eq_true rfl) ⟨Nat.le_refl _, Nat.le_refl _⟩ rfl (w.mono (fun r4 σ3 w => ?_))
    show XX g true (d + 1) P_X12_readCompared 16 [(2, 88), (9, 0)] [(0, r4)] 136 σ3 136 Q
    refine E_if_ne 19 43 dX12_readCompared_16 rfl rfl (fun h => ?_) (fun h => ?_)
    · have w := w.1 h
      refine E_aload_n 44 dX12_readCompared_43 rfl (ac_88.bnd) rfl ?_
      refine E_get 23 47 dX12_readCompared_44 fl_X12_211 ac_88 rfl (by decide) rfl rfl ?_
      refine E_bipush 49 dX12_readCompared_47 (by decide) rfl ?_
      refine E_icmp_ne 52 57 dX12_readCompared_49 rfl rfl (fun h => ?_) (fun h => ?_)
      · have w := w.1 h
        refine E_aload_n 58 dX12_readCompared_57 rfl (ac_88.bnd) rfl ?_
        refine E_get 23 61 dX12_readCompared_58 fl_X12_211 ac_88 rfl (by decide) rfl rfl ?_
        refine E_bipush 63 dX12_readCompared_61 (by decide) rfl ?_
        refine E_icmp_ne 66 71 dX12_readCompared_63 rfl rfl (fun h => ?_) (fun h => ?_)
        · have w := w.1 h
          refine E_bipush 73 dX12_readCompared_71 (by decide) rfl ?_
          refine E_istore_n (ls' := [(2, 88), (0, 8)]) 74 dX12_readCompared_73 (by decide) rfl rfl ?_
          refine E_aload_n 75 dX12_readCompared_74 rfl (ac_88.bnd) rfl ?_
          refine E_callV (as := []) 78 dX12_readCompared_75 cf_X12_reads mw_1407 mw_1409 mw_44 ac_88 (by decide) cl_X12 rfl rfl (Nat.le_of_ble_eq_true rfl) (Nat.le_of_ble_eq_true rfl) ⟨Nat.le_refl _, Nat.le_refl _⟩ rfl (w.mono (fun r6 σ5 w => ?_))
          show XX g true (d + 1) P_X12_readCompared 78 [(2, 88), (0, 8)] [] 136 σ5 136 Q
          refine E_aload_n 79 dX12_readCompared_78 rfl (ac_88.bnd) rfl ?_
          refine E_callV (as := []) 82 dX12_readCompared_79 cf_X12_readSum mw_1467 mw_1469 mw_59 ac_88 (by decide) cl_X12 rfl rfl (Nat.le_of_ble_eq_true rfl) (Nat.le_of_ble_eq_true rfl) ⟨Nat.le_refl _, Nat.le_refl _⟩ rfl (w.mono (fun r8 σ7 w => ?_))
          show XX g true (d + 1) P_X12_readCompared 82 [(2, 88), (0, 8)] [(0, r8)] 136 σ7 136 Q
          refine E_iconst 83 dX12_readCompared_82 (by decide) rfl ?_
          refine E_icmp_ne 86 88 dX12_readCompared_83 rfl rfl (fun h => ?_) (fun h => ?_)
          · have w := w.1 h
            refine E_aload_n 89 dX12_readCompared_88 rfl (ac_88.bnd) rfl ?_
            refine E_iload_n 90 dX12_readCompared_89 rfl rfl ?_
            refine E_iconst 91 dX12_readCompared_90 (by decide) rfl ?_
            refine E_callV (as := [(0, 8), (0, 0)]) 94 dX12_readCompared_91 cf_X12_emits mw_1483 mw_1485 mw_63 ac_88 (by decide) cl_X12 rfl rfl (Nat.le_of_ble_eq_true rfl) (Nat.le_of_ble_eq_true rfl) ⟨Nat.le_refl _, Nat.le_refl _⟩ rfl (w.mono (fun r10 σ9 w => ?_))
            show XX g true (d + 1) P_X12_readCompared 94 [(2, 88), (0, 8)] [] 136 σ9 136 Q
            refine E_iconst 95 dX12_readCompared_94 (by decide) rfl ?_
            exact E_iret dX12_readCompared_95 rfl rfl w
          · have w := w.2 h
            refine E_iconst 87 dX12_readCompared_86 (by decide) rfl ?_
            exact E_iret dX12_readCompared_87 rfl rfl w
        · have w := w.2 h
          refine E_bipush 68 dX12_readCompared_66 (by decide) rfl ?_
          refine E_goto 73 dX12_readCompared_68 rfl ?_
          refine E_istore_n (ls' := [(2, 88), (0, 7)]) 74 dX12_readCompared_73 (by decide) rfl rfl ?_
          refine E_aload_n 75 dX12_readCompared_74 rfl (ac_88.bnd) rfl ?_
          refine E_callV (as := []) 78 dX12_readCompared_75 cf_X12_reads mw_1407 mw_1409 mw_44 ac_88 (by decide) cl_X12 rfl rfl (Nat.le_of_ble_eq_true rfl) (Nat.le_of_ble_eq_true rfl) ⟨Nat.le_refl _, Nat.le_refl _⟩ rfl (w.mono (fun r12 σ11 w => ?_))
          show XX g true (d + 1) P_X12_readCompared 78 [(2, 88), (0, 7)] [] 136 σ11 136 Q
          refine E_aload_n 79 dX12_readCompared_78 rfl (ac_88.bnd) rfl ?_
          refine E_callV (as := []) 82 dX12_readCompared_79 cf_X12_readSum mw_1467 mw_1469 mw_59 ac_88 (by decide) cl_X12 rfl rfl (Nat.le_of_ble_eq_true rfl) (Nat.le_of_ble_eq_true rfl) ⟨Nat.le_refl _, Nat.le_refl _⟩ rfl (w.mono (fun r14 σ13 w => ?_))
          show XX g true (d + 1) P_X12_readCompared 82 [(2, 88), (0, 7)] [(0, r14)] 136 σ13 136 Q
          refine E_iconst 83 dX12_readCompared_82 (by decide) rfl ?_
          refine E_icmp_ne 86 88 dX12_readCompared_83 rfl rfl (fun h => ?_) (fun h => ?_)
          · have w := w.1 h
            refine E_aload_n 89 dX12_readCompared_88 rfl (ac_88.bnd) rfl ?_
            refine E_iload_n 90 dX12_readCompared_89 rfl rfl ?_
            refine E_iconst 91 dX12_readCompared_90 (by decide) rfl ?_
            refine E_callV (as := [(0, 7), (0, 0)]) 94 dX12_readCompared_91 cf_X12_emits mw_1483 mw_1485 mw_63 ac_88 (by decide) cl_X12 rfl rfl (Nat.le_of_ble_eq_true rfl) (Nat.le_of_ble_eq_true rfl) ⟨Nat.le_refl _, Nat.le_refl _⟩ rfl (w.mono (fun r16 σ15 w => ?_))
            show XX g true (d + 1) P_X12_readCompared 94 [(2, 88), (0, 7)] [] 136 σ15 136 Q
            refine E_iconst 95 dX12_readCompared_94 (by decide) rfl ?_
            exact E_iret dX12_readCompared_95 rfl rfl w
          · have w := w.2 h
            refine E_iconst 87 dX12_readCompared_86 (by decide) rfl ?_
            exact E_iret dX12_readCompared_87 rfl rfl w
      · have w := w.2 h
        refine E_bipush 54 dX12_readCompared_52 (by decide) rfl ?_
        refine E_goto 73 dX12_readCompared_54 rfl ?_
        refine E_istore_n (ls' := [(2, 88), (0, 6)]) 74 dX12_readCompared_73 (by decide) rfl rfl ?_
        refine E_aload_n 75 dX12_readCompared_74 rfl (ac_88.bnd) rfl ?_
        refine E_callV (as := []) 78 dX12_readCompared_75 cf_X12_reads mw_1407 mw_1409 mw_44 ac_88 (by decide) cl_X12 rfl rfl (Nat.le_of_ble_eq_true rfl) (Nat.le_of_ble_eq_true rfl) ⟨Nat.le_refl _, Nat.le_refl _⟩ rfl (w.mono (fun r18 σ17 w => ?_))
        show XX g true (d + 1) P_X12_readCompared 78 [(2, 88), (0, 6)] [] 136 σ17 136 Q
        refine E_aload_n 79 dX12_readCompared_78 rfl (ac_88.bnd) rfl ?_
        refine E_callV (as := []) 82 dX12_readCompared_79 cf_X12_readSum mw_1467 mw_1469 mw_59 ac_88 (by decide) cl_X12 rfl rfl (Nat.le_of_ble_eq_true rfl) (Nat.le_of_ble_eq_true rfl) ⟨Nat.le_refl _, Nat.le_refl _⟩ rfl (w.mono (fun r20 σ19 w => ?_))
        show XX g true (d + 1) P_X12_readCompared 82 [(2, 88), (0, 6)] [(0, r20)] 136 σ19 136 Q
        refine E_iconst 83 dX12_readCompared_82 (by decide) rfl ?_
        refine E_icmp_ne 86 88 dX12_readCompared_83 rfl rfl (fun h => ?_) (fun h => ?_)
        · have w := w.1 h
          refine E_aload_n 89 dX12_readCompared_88 rfl (ac_88.bnd) rfl ?_
          refine E_iload_n 90 dX12_readCompared_89 rfl rfl ?_
          refine E_iconst 91 dX12_readCompared_90 (by decide) rfl ?_
          refine E_callV (as := [(0, 6), (0, 0)]) 94 dX12_readCompared_91 cf_X12_emits mw_1483 mw_1485 mw_63 ac_88 (by decide) cl_X12 rfl rfl (Nat.le_of_ble_eq_true rfl) (Nat.le_of_ble_eq_true rfl) ⟨Nat.le_refl _, Nat.le_refl _⟩ rfl (w.mono (fun r22 σ21 w => ?_))
          show XX g true (d + 1) P_X12_readCompared 94 [(2, 88), (0, 6)] [] 136 σ21 136 Q
          refine E_iconst 95 dX12_readCompared_94 (by decide) rfl ?_
          exact E_iret dX12_readCompared_95 rfl rfl w
        · have w := w.2 h
          refine E_iconst 87 dX12_readCompared_86 (by decide) rfl ?_
          exact E_iret dX12_readCompared_87 rfl rfl w
    · have w := w.2 h
      refine E_aload_n 20 dX12_readCompared_19 rfl (ac_88.bnd) rfl ?_
      refine E_bipush 22 dX12_readCompared_20 (by decide) rfl ?_
      refine E_callV (as := [(0, 61)]) 25 dX12_readCompared_22 cf_X12_isSign mw_1455 mw_1457 mw_56 ac_88 (by decide) cl_X12 rfl rfl (Nat.le_of_ble_eq_true rfl) (Nat.le_of_ble_eq_true rfl) ⟨Nat.le_refl _, Nat.le_refl _⟩ rfl (w.mono (fun r24 σ23 w => ?_))
      show XX g true (d + 1) P_X12_readCompared 25 [(2, 88), (9, 0)] [(0, r24)] 136 σ23 136 Q
      refine E_if_ne 28 43 dX12_readCompared_25 rfl rfl (fun h => ?_) (fun h => ?_)
      · have w := w.1 h
        refine E_aload_n 44 dX12_readCompared_43 rfl (ac_88.bnd) rfl ?_
        refine E_get 23 47 dX12_readCompared_44 fl_X12_211 ac_88 rfl (by decide) rfl rfl ?_
        refine E_bipush 49 dX12_readCompared_47 (by decide) rfl ?_
        refine E_icmp_ne 52 57 dX12_readCompared_49 rfl rfl (fun h => ?_) (fun h => ?_)
        · have w := w.1 h
          refine E_aload_n 58 dX12_readCompared_57 rfl (ac_88.bnd) rfl ?_
          refine E_get 23 61 dX12_readCompared_58 fl_X12_211 ac_88 rfl (by decide) rfl rfl ?_
          refine E_bipush 63 dX12_readCompared_61 (by decide) rfl ?_
          refine E_icmp_ne 66 71 dX12_readCompared_63 rfl rfl (fun h => ?_) (fun h => ?_)
          · have w := w.1 h
            refine E_bipush 73 dX12_readCompared_71 (by decide) rfl ?_
            refine E_istore_n (ls' := [(2, 88), (0, 8)]) 74 dX12_readCompared_73 (by decide) rfl rfl ?_
            refine E_aload_n 75 dX12_readCompared_74 rfl (ac_88.bnd) rfl ?_
            refine E_callV (as := []) 78 dX12_readCompared_75 cf_X12_reads mw_1407 mw_1409 mw_44 ac_88 (by decide) cl_X12 rfl rfl (Nat.le_of_ble_eq_true rfl) (Nat.le_of_ble_eq_true rfl) ⟨Nat.le_refl _, Nat.le_refl _⟩ rfl (w.mono (fun r26 σ25 w => ?_))
            show XX g true (d + 1) P_X12_readCompared 78 [(2, 88), (0, 8)] [] 136 σ25 136 Q
            refine E_aload_n 79 dX12_readCompared_78 rfl (ac_88.bnd) rfl ?_
            refine E_callV (as := []) 82 dX12_readCompared_79 cf_X12_readSum mw_1467 mw_1469 mw_59 ac_88 (by decide) cl_X12 rfl rfl (Nat.le_of_ble_eq_true rfl) (Nat.le_of_ble_eq_true rfl) ⟨Nat.le_refl _, Nat.le_refl _⟩ rfl (w.mono (fun r28 σ27 w => ?_))
            show XX g true (d + 1) P_X12_readCompared 82 [(2, 88), (0, 8)] [(0, r28)] 136 σ27 136 Q
            refine E_iconst 83 dX12_readCompared_82 (by decide) rfl ?_
            refine E_icmp_ne 86 88 dX12_readCompared_83 rfl rfl (fun h => ?_) (fun h => ?_)
            · have w := w.1 h
              refine E_aload_n 89 dX12_readCompared_88 rfl (ac_88.bnd) rfl ?_
              refine E_iload_n 90 dX12_readCompared_89 rfl rfl ?_
              refine E_iconst 91 dX12_readCompared_90 (by decide) rfl ?_
              refine E_callV (as := [(0, 8), (0, 0)]) 94 dX12_readCompared_91 cf_X12_emits mw_1483 mw_1485 mw_63 ac_88 (by decide) cl_X12 rfl rfl (Nat.le_of_ble_eq_true rfl) (Nat.le_of_ble_eq_true rfl) ⟨Nat.le_refl _, Nat.le_refl _⟩ rfl (w.mono (fun r30 σ29 w => ?_))
              show XX g true (d + 1) P_X12_readCompared 94 [(2, 88), (0, 8)] [] 136 σ29 136 Q
              refine E_iconst 95 dX12_readCompared_94 (by decide) rfl ?_
              exact E_iret dX12_readCompared_95 rfl rfl w
            · have w := w.2 h
              refine E_iconst 87 dX12_readCompared_86 (by decide) rfl ?_
              exact E_iret dX12_readCompared_87 rfl rfl w
          · have w := w.2 h
            refine E_bipush 68 dX12_readCompared_66 (by decide) rfl ?_
            refine E_goto 73 dX12_readCompared_68 rfl ?_
            refine E_istore_n (ls' := [(2, 88), (0, 7)]) 74 dX12_readCompared_73 (by decide) rfl rfl ?_
            refine E_aload_n 75 dX12_readCompared_74 rfl (ac_88.bnd) rfl ?_
            refine E_callV (as := []) 78 dX12_readCompared_75 cf_X12_reads mw_1407 mw_1409 mw_44 ac_88 (by decide) cl_X12 rfl rfl (Nat.le_of_ble_eq_true rfl) (Nat.le_of_ble_eq_true rfl) ⟨Nat.le_refl _, Nat.le_refl _⟩ rfl (w.mono (fun r32 σ31 w => ?_))
            show XX g true (d + 1) P_X12_readCompared 78 [(2, 88), (0, 7)] [] 136 σ31 136 Q
            refine E_aload_n 79 dX12_readCompared_78 rfl (ac_88.bnd) rfl ?_
            refine E_callV (as := []) 82 dX12_readCompared_79 cf_X12_readSum mw_1467 mw_1469 mw_59 ac_88 (by decide) cl_X12 rfl rfl (Nat.le_of_ble_eq_true rfl) (Nat.le_of_ble_eq_true rfl) ⟨Nat.le_refl _, Nat.le_refl _⟩ rfl (w.mono (fun r34 σ33 w => ?_))
            show XX g true (d + 1) P_X12_readCompared 82 [(2, 88), (0, 7)] [(0, r34)] 136 σ33 136 Q
            refine E_iconst 83 dX12_readCompared_82 (by decide) rfl ?_
            refine E_icmp_ne 86 88 dX12_readCompared_83 rfl rfl (fun h => ?_) (fun h => ?_)
            · have w := w.1 h
              refine E_aload_n 89 dX12_readCompared_88 rfl (ac_88.bnd) rfl ?_
              refine E_iload_n 90 dX12_readCompared_89 rfl rfl ?_
              refine E_iconst 91 dX12_readCompared_90 (by decide) rfl ?_
              refine E_callV (as := [(0, 7), (0, 0)]) 94 dX12_readCompared_91 cf_X12_emits mw_1483 mw_1485 mw_63 ac_88 (by decide) cl_X12 rfl rfl (Nat.le_of_ble_eq_true rfl) (Nat.le_of_ble_eq_true rfl) ⟨Nat.le_refl _, Nat.le_refl _⟩ rfl (w.mono (fun r36 σ35 w => ?_))
              show XX g true (d + 1) P_X12_readCompared 94 [(2, 88), (0, 7)] [] 136 σ35 136 Q
              refine E_iconst 95 dX12_readCompared_94 (by decide) rfl ?_
              exact E_iret dX12_readCompared_95 rfl rfl w
            · have w := w.2 h
              refine E_iconst 87 dX12_readCompared_86 (by decide) rfl ?_
              exact E_iret dX12_readCompared_87 rfl rfl w
        · have w := w.2 h
          refine E_bipush 54 dX12_readCompared_52 (by decide) rfl ?_
          refine E_goto 73 dX12_readCompared_54 rfl ?_
          refine E_istore_n (ls' := [(2, 88), (0, 6)]) 74 dX12_readCompared_73 (by decide) rfl rfl ?_
          refine E_aload_n 75 dX12_readCompared_74 rfl (ac_88.bnd) rfl ?_
          refine E_callV (as := []) 78 dX12_readCompared_75 cf_X12_reads mw_1407 mw_1409 mw_44 ac_88 (by decide) cl_X12 rfl rfl (Nat.le_of_ble_eq_true rfl) (Nat.le_of_ble_eq_true rfl) ⟨Nat.le_refl _, Nat.le_refl _⟩ rfl (w.mono (fun r38 σ37 w => ?_))
          show XX g true (d + 1) P_X12_readCompared 78 [(2, 88), (0, 6)] [] 136 σ37 136 Q
          refine E_aload_n 79 dX12_readCompared_78 rfl (ac_88.bnd) rfl ?_
          refine E_callV (as := []) 82 dX12_readCompared_79 cf_X12_readSum mw_1467 mw_1469 mw_59 ac_88 (by decide) cl_X12 rfl rfl (Nat.le_of_ble_eq_true rfl) (Nat.le_of_ble_eq_true rfl) ⟨Nat.le_refl _, Nat.le_refl _⟩ rfl (w.mono (fun r40 σ39 w => ?_))
          show XX g true (d + 1) P_X12_readCompared 82 [(2, 88), (0, 6)] [(0, r40)] 136 σ39 136 Q
          refine E_iconst 83 dX12_readCompared_82 (by decide) rfl ?_
          refine E_icmp_ne 86 88 dX12_readCompared_83 rfl rfl (fun h => ?_) (fun h => ?_)
          · have w := w.1 h
            refine E_aload_n 89 dX12_readCompared_88 rfl (ac_88.bnd) rfl ?_
            refine E_iload_n 90 dX12_readCompared_89 rfl rfl ?_
            refine E_iconst 91 dX12_readCompared_90 (by decide) rfl ?_
            refine E_callV (as := [(0, 6), (0, 0)]) 94 dX12_readCompared_91 cf_X12_emits mw_1483 mw_1485 mw_63 ac_88 (by decide) cl_X12 rfl rfl (Nat.le_of_ble_eq_true rfl) (Nat.le_of_ble_eq_true rfl) ⟨Nat.le_refl _, Nat.le_refl _⟩ rfl (w.mono (fun r42 σ41 w => ?_))
            show XX g true (d + 1) P_X12_readCompared 94 [(2, 88), (0, 6)] [] 136 σ41 136 Q
            refine E_iconst 95 dX12_readCompared_94 (by decide) rfl ?_
            exact E_iret dX12_readCompared_95 rfl rfl w
          · have w := w.2 h
            refine E_iconst 87 dX12_readCompared_86 (by decide) rfl ?_
            exact E_iret dX12_readCompared_87 rfl rfl w
      · have w := w.2 h
        refine E_aload_n 29 dX12_readCompared_28 rfl (ac_88.bnd) rfl ?_
        refine E_bipush 31 dX12_readCompared_29 (by decide) rfl ?_
        refine E_callV (as := [(0, 62)]) 34 dX12_readCompared_31 cf_X12_isSign mw_1455 mw_1457 mw_56 ac_88 (by decide) cl_X12 rfl rfl (Nat.le_of_ble_eq_true rfl) (Nat.le_of_ble_eq_true rfl) ⟨Nat.le_refl _, Nat.le_refl _⟩ rfl (w.mono (fun r44 σ43 w => ?_))
        show XX g true (d + 1) P_X12_readCompared 34 [(2, 88), (9, 0)] [(0, r44)] 136 σ43 136 Q
        refine E_if_ne 37 43 dX12_readCompared_34 rfl rfl (fun h => ?_) (fun h => ?_)
        · have w := w.1 h
          refine E_aload_n 44 dX12_readCompared_43 rfl (ac_88.bnd) rfl ?_
          refine E_get 23 47 dX12_readCompared_44 fl_X12_211 ac_88 rfl (by decide) rfl rfl ?_
          refine E_bipush 49 dX12_readCompared_47 (by decide) rfl ?_
          refine E_icmp_ne 52 57 dX12_readCompared_49 rfl rfl (fun h => ?_) (fun h => ?_)
          · have w := w.1 h
            refine E_aload_n 58 dX12_readCompared_57 rfl (ac_88.bnd) rfl ?_
            refine E_get 23 61 dX12_readCompared_58 fl_X12_211 ac_88 rfl (by decide) rfl rfl ?_
            refine E_bipush 63 dX12_readCompared_61 (by decide) rfl ?_
            refine E_icmp_ne 66 71 dX12_readCompared_63 rfl rfl (fun h => ?_) (fun h => ?_)
            · have w := w.1 h
              refine E_bipush 73 dX12_readCompared_71 (by decide) rfl ?_
              refine E_istore_n (ls' := [(2, 88), (0, 8)]) 74 dX12_readCompared_73 (by decide) rfl rfl ?_
              refine E_aload_n 75 dX12_readCompared_74 rfl (ac_88.bnd) rfl ?_
              refine E_callV (as := []) 78 dX12_readCompared_75 cf_X12_reads mw_1407 mw_1409 mw_44 ac_88 (by decide) cl_X12 rfl rfl (Nat.le_of_ble_eq_true rfl) (Nat.le_of_ble_eq_true rfl) ⟨Nat.le_refl _, Nat.le_refl _⟩ rfl (w.mono (fun r46 σ45 w => ?_))
              show XX g true (d + 1) P_X12_readCompared 78 [(2, 88), (0, 8)] [] 136 σ45 136 Q
              refine E_aload_n 79 dX12_readCompared_78 rfl (ac_88.bnd) rfl ?_
              refine E_callV (as := []) 82 dX12_readCompared_79 cf_X12_readSum mw_1467 mw_1469 mw_59 ac_88 (by decide) cl_X12 rfl rfl (Nat.le_of_ble_eq_true rfl) (Nat.le_of_ble_eq_true rfl) ⟨Nat.le_refl _, Nat.le_refl _⟩ rfl (w.mono (fun r48 σ47 w => ?_))
              show XX g true (d + 1) P_X12_readCompared 82 [(2, 88), (0, 8)] [(0, r48)] 136 σ47 136 Q
              refine E_iconst 83 dX12_readCompared_82 (by decide) rfl ?_
              refine E_icmp_ne 86 88 dX12_readCompared_83 rfl rfl (fun h => ?_) (fun h => ?_)
              · have w := w.1 h
                refine E_aload_n 89 dX12_readCompared_88 rfl (ac_88.bnd) rfl ?_
                refine E_iload_n 90 dX12_readCompared_89 rfl rfl ?_
                refine E_iconst 91 dX12_readCompared_90 (by decide) rfl ?_
                refine E_callV (as := [(0, 8), (0, 0)]) 94 dX12_readCompared_91 cf_X12_emits mw_1483 mw_1485 mw_63 ac_88 (by decide) cl_X12 rfl rfl (Nat.le_of_ble_eq_true rfl) (Nat.le_of_ble_eq_true rfl) ⟨Nat.le_refl _, Nat.le_refl _⟩ rfl (w.mono (fun r50 σ49 w => ?_))
                show XX g true (d + 1) P_X12_readCompared 94 [(2, 88), (0, 8)] [] 136 σ49 136 Q
                refine E_iconst 95 dX12_readCompared_94 (by decide) rfl ?_
                exact E_iret dX12_readCompared_95 rfl rfl w
              · have w := w.2 h
                refine E_iconst 87 dX12_readCompared_86 (by decide) rfl ?_
                exact E_iret dX12_readCompared_87 rfl rfl w
            · have w := w.2 h
              refine E_bipush 68 dX12_readCompared_66 (by decide) rfl ?_
              refine E_goto 73 dX12_readCompared_68 rfl ?_
              refine E_istore_n (ls' := [(2, 88), (0, 7)]) 74 dX12_readCompared_73 (by decide) rfl rfl ?_
              refine E_aload_n 75 dX12_readCompared_74 rfl (ac_88.bnd) rfl ?_
              refine E_callV (as := []) 78 dX12_readCompared_75 cf_X12_reads mw_1407 mw_1409 mw_44 ac_88 (by decide) cl_X12 rfl rfl (Nat.le_of_ble_eq_true rfl) (Nat.le_of_ble_eq_true rfl) ⟨Nat.le_refl _, Nat.le_refl _⟩ rfl (w.mono (fun r52 σ51 w => ?_))
              show XX g true (d + 1) P_X12_readCompared 78 [(2, 88), (0, 7)] [] 136 σ51 136 Q
              refine E_aload_n 79 dX12_readCompared_78 rfl (ac_88.bnd) rfl ?_
              refine E_callV (as := []) 82 dX12_readCompared_79 cf_X12_readSum mw_1467 mw_1469 mw_59 ac_88 (by decide) cl_X12 rfl rfl (Nat.le_of_ble_eq_true rfl) (Nat.le_of_ble_eq_true rfl) ⟨Nat.le_refl _, Nat.le_refl _⟩ rfl (w.mono (fun r54 σ53 w => ?_))
              show XX g true (d + 1) P_X12_readCompared 82 [(2, 88), (0, 7)] [(0, r54)] 136 σ53 136 Q
              refine E_iconst 83 dX12_readCompared_82 (by decide) rfl ?_
              refine E_icmp_ne 86 88 dX12_readCompared_83 rfl rfl (fun h => ?_) (fun h => ?_)
              · have w := w.1 h
                refine E_aload_n 89 dX12_readCompared_88 rfl (ac_88.bnd) rfl ?_
                refine E_iload_n 90 dX12_readCompared_89 rfl rfl ?_
                refine E_iconst 91 dX12_readCompared_90 (by decide) rfl ?_
                refine E_callV (as := [(0, 7), (0, 0)]) 94 dX12_readCompared_91 cf_X12_emits mw_1483 mw_1485 mw_63 ac_88 (by decide) cl_X12 rfl rfl (Nat.le_of_ble_eq_true rfl) (Nat.le_of_ble_eq_true rfl) ⟨Nat.le_refl _, Nat.le_refl _⟩ rfl (w.mono (fun r56 σ55 w => ?_))
                show XX g true (d + 1) P_X12_readCompared 94 [(2, 88), (0, 7)] [] 136 σ55 136 Q
                refine E_iconst 95 dX12_readCompared_94 (by decide) rfl ?_
                exact E_iret dX12_readCompared_95 rfl rfl w
              · have w := w.2 h
                refine E_iconst 87 dX12_readCompared_86 (by decide) rfl ?_
                exact E_iret dX12_readCompared_87 rfl rfl w
          · have w := w.2 h
            refine E_bipush 54 dX12_readCompared_52 (by decide) rfl ?_
            refine E_goto 73 dX12_readCompared_54 rfl ?_
            refine E_istore_n (ls' := [(2, 88), (0, 6)]) 74 dX12_readCompared_73 (by decide) rfl rfl ?_
            refine E_aload_n 75 dX12_readCompared_74 rfl (ac_88.bnd) rfl ?_
            refine E_callV (as := []) 78 dX12_readCompared_75 cf_X12_reads mw_1407 mw_1409 mw_44 ac_88 (by decide) cl_X12 rfl rfl (Nat.le_of_ble_eq_true rfl) (Nat.le_of_ble_eq_true rfl) ⟨Nat.le_refl _, Nat.le_refl _⟩ rfl (w.mono (fun r58 σ57 w => ?_))
            show XX g true (d + 1) P_X12_readCompared 78 [(2, 88), (0, 6)] [] 136 σ57 136 Q
            refine E_aload_n 79 dX12_readCompared_78 rfl (ac_88.bnd) rfl ?_
            refine E_callV (as := []) 82 dX12_readCompared_79 cf_X12_readSum mw_1467 mw_1469 mw_59 ac_88 (by decide) cl_X12 rfl rfl (Nat.le_of_ble_eq_true rfl) (Nat.le_of_ble_eq_true rfl) ⟨Nat.le_refl _, Nat.le_refl _⟩ rfl (w.mono (fun r60 σ59 w => ?_))
            show XX g true (d + 1) P_X12_readCompared 82 [(2, 88), (0, 6)] [(0, r60)] 136 σ59 136 Q
            refine E_iconst 83 dX12_readCompared_82 (by decide) rfl ?_
            refine E_icmp_ne 86 88 dX12_readCompared_83 rfl rfl (fun h => ?_) (fun h => ?_)
            · have w := w.1 h
              refine E_aload_n 89 dX12_readCompared_88 rfl (ac_88.bnd) rfl ?_
              refine E_iload_n 90 dX12_readCompared_89 rfl rfl ?_
              refine E_iconst 91 dX12_readCompared_90 (by decide) rfl ?_
              refine E_callV (as := [(0, 6), (0, 0)]) 94 dX12_readCompared_91 cf_X12_emits mw_1483 mw_1485 mw_63 ac_88 (by decide) cl_X12 rfl rfl (Nat.le_of_ble_eq_true rfl) (Nat.le_of_ble_eq_true rfl) ⟨Nat.le_refl _, Nat.le_refl _⟩ rfl (w.mono (fun r62 σ61 w => ?_))
              show XX g true (d + 1) P_X12_readCompared 94 [(2, 88), (0, 6)] [] 136 σ61 136 Q
              refine E_iconst 95 dX12_readCompared_94 (by decide) rfl ?_
              exact E_iret dX12_readCompared_95 rfl rfl w
            · have w := w.2 h
              refine E_iconst 87 dX12_readCompared_86 (by decide) rfl ?_
              exact E_iret dX12_readCompared_87 rfl rfl w
        · have w := w.2 h
          refine E_aload_n 38 dX12_readCompared_37 rfl (ac_88.bnd) rfl ?_
          refine E_iconst 39 dX12_readCompared_38 (by decide) rfl ?_
          refine E_callV (as := [(0, 1)]) 42 dX12_readCompared_39 cf_X12_errs mw_1435 mw_1437 mw_51 ac_88 (by decide) cl_X12 rfl rfl (Nat.le_of_ble_eq_true rfl) (Nat.le_of_ble_eq_true rfl) ⟨Nat.le_refl _, Nat.le_refl _⟩ rfl (w.mono (fun r64 σ63 w => ?_))
          show XX g true (d + 1) P_X12_readCompared 42 [(2, 88), (9, 0)] [(0, r64)] 136 σ63 136 Q
          exact E_iret dX12_readCompared_42 rfl rfl w
  · have w := w.2 h
    refine E_iconst 9 dX12_readCompared_8 (by decide) rfl ?_
    exact E_iret dX12_readCompared_9 rfl rfl w
theorem B_X12_waits_0 {g : PG} {d : Nat} {σ : PS} {Q : Int → PS → Prop} {x1 : Int}  (w : (0 ≤ σ 88 35 ∧ σ 88 35 < 40) ∧ Q 0 (su (su σ 106 (σ 88 35) x1) 88 35 (w32 ((σ 88 35) + 1)))) : XX g true d P_X12_waits 0 [(2, 88), (0, x1)] [] 136 σ 136 Q := by
  refine E_aload_n 1 dX12_waits_0 rfl (ac_88.bnd) rfl ?_
  refine E_getL 4 dX12_waits_1 fl_X12_68 ac_88 rfl (by decide) lay_88_34 rfl ?_
  refine E_aload_n 5 dX12_waits_4 rfl (ac_88.bnd) rfl ?_
  refine E_get 35 8 dX12_waits_5 fl_X12_267 ac_88 rfl (by decide) rfl rfl ?_
  refine E_iload_n 9 dX12_waits_8 rfl rfl ?_
  obtain ⟨c1, w⟩ := w
  refine E_iast 10 dX12_waits_9 ac_106 c1 rfl ?_
  refine E_aload_n 11 dX12_waits_10 rfl (ac_88.bnd) rfl ?_
  refine E_aload_n 12 dX12_waits_11 rfl (ac_88.bnd) rfl ?_
  refine E_get 35 15 dX12_waits_12 fl_X12_267 ac_88 rfl (by decide) rfl rfl ?_
  refine E_conv (su_ne (Or.inl (by decide))) ?_
  refine E_iconst 16 dX12_waits_15 (by decide) rfl ?_
  refine E_iadd 17 dX12_waits_16 rfl ?_
  refine E_putI 35 20 dX12_waits_17 fl_X12_267 ac_88 rfl (by decide) (Or.inl rfl) rfl rfl ?_
  exact E_vret dX12_waits_20 rfl rfl w
theorem B_X12_settles_0 {g : PG} {d : Nat} {σ : PS} {Q : Int → PS → Prop} {x1 : Int}  (w : ((σ 88 35 ≤ 0 → Q 0 σ) ∧ (0 < σ 88 35 → (0 ≤ w32 ((σ 88 35) - 1) ∧ w32 ((σ 88 35) - 1) < 40) ∧ ((σ 106 (w32 ((σ 88 35) - 1)) ≠ x1 → Q 0 σ) ∧ (σ 106 (w32 ((σ 88 35) - 1)) = x1 → XX g true d P_X12_emits 0 [(2, 88), (0, x1), (0, 0)] [] 136 (su σ 88 35 (w32 ((σ 88 35) - 1))) 136 (fun _ σ2 => ((x1 ≠ 9 → (XX g true (d + 1) P_X12_settles 0 [(2, 88), (0, x1)] [] 136 σ2 136 Q)) ∧ (x1 = 9 → (XX g true (d + 1) P_X12_settles 0 [(2, 88), (0, x1)] [] 136 (su σ2 88 33 (w32 ((σ2 88 33) - 1))) 136 Q))))))))) : XX g true (d + 1) P_X12_settles 0 [(2, 88), (0, x1)] [] 136 σ 136 Q := by
  refine E_aload_n 1 dX12_settles_0 rfl (ac_88.bnd) rfl ?_
  refine E_get 35 4 dX12_settles_1 fl_X12_267 ac_88 rfl (by decide) rfl rfl ?_
  refine E_if_le 7 57 dX12_settles_4 rfl rfl (fun h => ?_) (fun h => ?_)
  · have w := w.1 h
    exact E_vret dX12_settles_57 rfl rfl w
  · have w := w.2 h
    refine E_aload_n 8 dX12_settles_7 rfl (ac_88.bnd) rfl ?_
    refine E_getL 11 dX12_settles_8 fl_X12_68 ac_88 rfl (by decide) lay_88_34 rfl ?_
    refine E_aload_n 12 dX12_settles_11 rfl (ac_88.bnd) rfl ?_
    refine E_get 35 15 dX12_settles_12 fl_X12_267 ac_88 rfl (by decide) rfl rfl ?_
    refine E_iconst 16 dX12_settles_15 (by decide) rfl ?_
    refine E_isub 17 dX12_settles_16 rfl ?_
    obtain ⟨c1, w⟩ := w
    refine E_iald 18 dX12_settles_17 ac_106 c1 rfl ?_
    refine E_iload_n 19 dX12_settles_18 rfl rfl ?_
    refine E_icmp_ne 22 57 dX12_settles_19 rfl rfl (fun h => ?_) (fun h => ?_)
    · have w := w.1 h
      exact E_vret dX12_settles_57 rfl rfl w
    · have w := w.2 h
      refine E_aload_n 23 dX12_settles_22 rfl (ac_88.bnd) rfl ?_
      refine E_aload_n 24 dX12_settles_23 rfl (ac_88.bnd) rfl ?_
      refine E_get 35 27 dX12_settles_24 fl_X12_267 ac_88 rfl (by decide) rfl rfl ?_
      refine E_iconst 28 dX12_settles_27 (by decide) rfl ?_
      refine E_isub 29 dX12_settles_28 rfl ?_
      refine E_putI 35 32 dX12_settles_29 fl_X12_267 ac_88 rfl (by decide) (Or.inl rfl) rfl rfl ?_
      refine E_aload_n 33 dX12_settles_32 rfl (ac_88.bnd) rfl ?_
      refine E_iload_n 34 dX12_settles_33 rfl rfl ?_
      refine E_iconst 35 dX12_settles_34 (by decide) rfl ?_
      refine E_callV (as := [(0, x1), (0, 0)]) 38 dX12_settles_35 cf_X12_emits mw_1483 mw_1485 mw_63 ac_88 (by decide) cl_X12 rfl rfl (Nat.le_of_ble_eq_true rfl) (Nat.le_of_ble_eq_true rfl) ⟨Nat.le_refl _, Nat.le_refl _⟩ rfl (w.mono (fun r3 σ2 w => ?_))
      show XX g true (d + 1) P_X12_settles 38 [(2, 88), (0, x1)] [] 136 σ2 136 Q
      refine E_iload_n 39 dX12_settles_38 rfl rfl ?_
      refine E_bipush 41 dX12_settles_39 (by decide) rfl ?_
      refine E_icmp_ne 44 0 dX12_settles_41 rfl rfl (fun h => ?_) (fun h => ?_)
      · have w := w.1 h
        with_reducible exact w
      · have w := w.2 h
        refine E_aload_n 45 dX12_settles_44 rfl (ac_88.bnd) rfl ?_
        refine E_aload_n 46 dX12_settles_45 rfl (ac_88.bnd) rfl ?_
        refine E_get 33 49 dX12_settles_46 fl_X12_270 ac_88 rfl (by decide) rfl rfl ?_
        refine E_iconst 50 dX12_settles_49 (by decide) rfl ?_
        refine E_isub 51 dX12_settles_50 rfl ?_
        refine E_putI 33 54 dX12_settles_51 fl_X12_270 ac_88 rfl (by decide) (Or.inl rfl) rfl rfl ?_
        refine E_goto 0 dX12_settles_54 rfl ?_
        with_reducible exact w
theorem B_X12_readAny_0 {g : PG} {d : Nat} {σ : PS} {Q : Int → PS → Prop}  (w : (XX g true (d + 1) P_X12_readAny 9 [(2, 88), (0, 0), (0, 1), (9, 0)] [] 136 (su σ 88 35 0) 136 Q)) : XX g true (d + 1) P_X12_readAny 0 [(2, 88), (9, 0), (9, 0), (9, 0)] [] 136 σ 136 Q := by
  refine E_iconst 1 dX12_readAny_0 (by decide) rfl ?_
  refine E_istore_n (ls' := [(2, 88), (0, 0), (9, 0), (9, 0)]) 2 dX12_readAny_1 (by decide) rfl rfl ?_
  refine E_aload_n 3 dX12_readAny_2 rfl (ac_88.bnd) rfl ?_
  refine E_iconst 4 dX12_readAny_3 (by decide) rfl ?_
  refine E_putI 35 7 dX12_readAny_4 fl_X12_267 ac_88 rfl (by decide) (Or.inl rfl) rfl rfl ?_
  refine E_iconst 8 dX12_readAny_7 (by decide) rfl ?_
  refine E_istore_n (ls' := [(2, 88), (0, 0), (0, 1), (9, 0)]) 9 dX12_readAny_8 (by decide) rfl rfl ?_
  with_reducible exact w
theorem B_X12_readAny_9 {g : PG} {d : Nat} {σ : PS} {Q : Int → PS → Prop} {x1 x2 : Int}  (w : ((x2 = 0 → XX g true d P_X12_isWord 0 [(2, 88), (0, 11)] [] 136 σ 136 (fun r2 σ1 => ((r2 = 0 → XX g true d P_X12_isWord 0 [(2, 88), (0, 10)] [] 136 σ1 136 (fun r4 σ3 => ((r4 = 0 → XX g true d P_X12_settles 0 [(2, 88), (0, 10)] [] 136 σ3 136 (fun _ σ5 => XX g true d P_X12_settles 0 [(2, 88), (0, 11)] [] 136 σ5 136 (fun _ σ7 => ((x1 ≠ 0 → XX g true d P_X12_isSign 0 [(2, 88), (0, 41)] [] 136 σ7 136 (fun r10 σ9 => ((r10 ≠ 0 → ∀ y11, y11 = w32 (x1 - 1) → XX g true d P_X12_settles 0 [(2, 88), (0, 9)] [] 136 (su (su σ9 88 35 (w32 ((σ9 88 35) - 1))) 88 33 (w32 ((σ9 88 33) - 1))) 136 (fun _ σ12 => XX g true d P_X12_reads 0 [(2, 88), (9, 0)] [] 136 σ12 136 (fun _ σ14 => (XX g true (d + 1) P_X12_readAny 9 [(2, 88), (0, y11), (0, x2), (9, 0)] [] 136 σ14 136 Q)))) ∧ (r10 = 0 → XX g true d P_X12_errs 0 [(2, 88), (0, 1)] [] 136 σ9 136 (fun r17 σ16 => Q r17 σ16))))) ∧ (x1 = 0 → Q 0 σ7))))) ∧ (r4 ≠ 0 → XX g true d P_X12_settles 0 [(2, 88), (0, 10)] [] 136 σ3 136 (fun _ σ18 => XX g true d P_X12_settles 0 [(2, 88), (0, 11)] [] 136 σ18 136 (fun _ σ20 => XX g true d P_X12_waits 0 [(2, 88), (0, 11)] [] 136 σ20 136 (fun _ σ22 => XX g true d P_X12_reads 0 [(2, 88), (9, 0)] [] 136 σ22 136 (fun _ σ24 => (XX g true (d + 1) P_X12_readAny 9 [(2, 88), (0, x1), (0, 1), (9, 0)] [] 136 σ24 136 Q))))))))) ∧ (r2 ≠ 0 → XX g true d P_X12_settles 0 [(2, 88), (0, 10)] [] 136 σ1 136 (fun _ σ26 => XX g true d P_X12_waits 0 [(2, 88), (0, 10)] [] 136 σ26 136 (fun _ σ28 => XX g true d P_X12_reads 0 [(2, 88), (9, 0)] [] 136 σ28 136 (fun _ σ30 => (XX g true (d + 1) P_X12_readAny 9 [(2, 88), (0, x1), (0, 1), (9, 0)] [] 136 σ30 136 Q)))))))) ∧ (x2 ≠ 0 → XX g true d P_X12_isWord 0 [(2, 88), (0, 12)] [] 136 σ 136 (fun r33 σ32 => ((r33 ≠ 0 → ((σ32 88 33 ≠ 8 → ((r33 ≠ 0 → ((r33 = 0 → XX g true d P_X12_waits 0 [(2, 88), (0, 12)] [] 136 (su σ32 88 33 (w32 ((σ32 88 33) + 1))) 136 (fun _ σ34 => XX g true d P_X12_reads 0 [(2, 88), (9, 0)] [] 136 σ34 136 (fun _ σ36 => (XX g true (d + 1) P_X12_readAny 9 [(2, 88), (0, x1), (0, x2), (9, 0)] [] 136 σ36 136 Q)))) ∧ (r33 ≠ 0 → XX g true d P_X12_waits 0 [(2, 88), (0, 9)] [] 136 (su σ32 88 33 (w32 ((σ32 88 33) + 1))) 136 (fun _ σ38 => XX g true d P_X12_reads 0 [(2, 88), (9, 0)] [] 136 σ38 136 (fun _ σ40 => (XX g true (d + 1) P_X12_readAny 9 [(2, 88), (0, x1), (0, x2), (9, 0)] [] 136 σ40 136 Q)))))) ∧ (r33 = 0 → ∀ y42, y42 = w32 (x1 + 1) → ((r33 = 0 → XX g true d P_X12_waits 0 [(2, 88), (0, 12)] [] 136 (su σ32 88 33 (w32 ((σ32 88 33) + 1))) 136 (fun _ σ43 => XX g true d P_X12_reads 0 [(2, 88), (9, 0)] [] 136 σ43 136 (fun _ σ45 => (XX g true (d + 1) P_X12_readAny 9 [(2, 88), (0, y42), (0, x2), (9, 0)] [] 136 σ45 136 Q)))) ∧ (r33 ≠ 0 → XX g true d P_X12_waits 0 [(2, 88), (0, 9)] [] 136 (su σ32 88 33 (w32 ((σ32 88 33) + 1))) 136 (fun _ σ47 => XX g true d P_X12_reads 0 [(2, 88), (9, 0)] [] 136 σ47 136 (fun _ σ49 => (XX g true (d + 1) P_X12_readAny 9 [(2, 88), (0, y42), (0, x2), (9, 0)] [] 136 σ49 136 Q)))))))) ∧ (σ32 88 33 = 8 → XX g true d P_X12_errs 0 [(2, 88), (0, 3)] [] 136 σ32 136 (fun r52 σ51 => Q r52 σ51)))) ∧ (r33 = 0 → XX g true d P_X12_isSign 0 [(2, 88), (0, 40)] [] 136 σ32 136 (fun r54 σ53 => ((r54 = 0 → XX g true d P_X12_readCompared 0 [(2, 88), (9, 0)] [] 136 σ53 136 (fun r56 σ55 => ((r56 ≠ (-1) → XX g true d P_X12_settles 0 [(2, 88), (0, 9)] [] 136 σ55 136 (fun _ σ57 => (XX g true (d + 1) P_X12_readAny 9 [(2, 88), (0, x1), (0, 0), (9, 0)] [] 136 σ57 136 Q))) ∧ (r56 = (-1) → Q (-1) σ55)))) ∧ (r54 ≠ 0 → ((σ53 88 33 ≠ 8 → ((r33 ≠ 0 → ((r33 = 0 → XX g true d P_X12_waits 0 [(2, 88), (0, 12)] [] 136 (su σ53 88 33 (w32 ((σ53 88 33) + 1))) 136 (fun _ σ59 => XX g true d P_X12_reads 0 [(2, 88), (9, 0)] [] 136 σ59 136 (fun _ σ61 => (XX g true (d + 1) P_X12_readAny 9 [(2, 88), (0, x1), (0, x2), (9, 0)] [] 136 σ61 136 Q)))) ∧ (r33 ≠ 0 → XX g true d P_X12_waits 0 [(2, 88), (0, 9)] [] 136 (su σ53 88 33 (w32 ((σ53 88 33) + 1))) 136 (fun _ σ63 => XX g true d P_X12_reads 0 [(2, 88), (9, 0)] [] 136 σ63 136 (fun _ σ65 => (XX g true (d + 1) P_X12_readAny 9 [(2, 88), (0, x1), (0, x2), (9, 0)] [] 136 σ65 136 Q)))))) ∧ (r33 = 0 → ∀ y67, y67 = w32 (x1 + 1) → ((r33 = 0 → XX g true d P_X12_waits 0 [(2, 88), (0, 12)] [] 136 (su σ53 88 33 (w32 ((σ53 88 33) + 1))) 136 (fun _ σ68 => XX g true d P_X12_reads 0 [(2, 88), (9, 0)] [] 136 σ68 136 (fun _ σ70 => (XX g true (d + 1) P_X12_readAny 9 [(2, 88), (0, y67), (0, x2), (9, 0)] [] 136 σ70 136 Q)))) ∧ (r33 ≠ 0 → XX g true d P_X12_waits 0 [(2, 88), (0, 9)] [] 136 (su σ53 88 33 (w32 ((σ53 88 33) + 1))) 136 (fun _ σ72 => XX g true d P_X12_reads 0 [(2, 88), (9, 0)] [] 136 σ72 136 (fun _ σ74 => (XX g true (d + 1) P_X12_readAny 9 [(2, 88), (0, y67), (0, x2), (9, 0)] [] 136 σ74 136 Q)))))))) ∧ (σ53 88 33 = 8 → XX g true d P_X12_errs 0 [(2, 88), (0, 3)] [] 136 σ53 136 (fun r77 σ76 => Q r77 σ76)))))))))))) : XX g true (d + 1) P_X12_readAny 9 [(2, 88), (0, x1), (0, x2), (9, 0)] [] 136 σ 136 Q := by
  refine E_iload_n 10 dX12_readAny_9 rfl rfl ?_
  refine E_if_eq 13 109 dX12_readAny_10 rfl rfl (fun h => ?_) (fun h => ?_)
  · have w := w.1 h
    refine E_aload_n 110 dX12_readAny_109 rfl (ac_88.bnd) rfl ?_
    refine E_bipush 112 dX12_readAny_110 (by decide) rfl ?_
    refine E_callV (as := [(0, 11)]) 115 dX12_readAny_112 cf_X12_isWord mw_1451 mw_1453 mw_55 ac_88 (by decide) cl_X12 rfl rfl (Nat.le_of_ble_eq_true rfl) (Nat.le_of_ble_eq_true rfl) ⟨Nat.le_refl _, Nat.le_refl _⟩ rfl (w.mono (fun r2 σ1 w => ?_))
    show XX g true (d + 1) P_X12_readAny 115 [(2, 88), (0, x1), (0, x2), (9, 0)] [(0, r2)] 136 σ1 136 Q
    refine E_if_eq 118 139 dX12_readAny_115 rfl rfl (fun h => ?_) (fun h => ?_)
    · have w := w.1 h
      refine E_aload_n 140 dX12_readAny_139 rfl (ac_88.bnd) rfl ?_
      refine E_bipush 142 dX12_readAny_140 (by decide) rfl ?_
      refine E_callV (as := [(0, 10)]) 145 dX12_readAny_142 cf_X12_isWord mw_1451 mw_1453 mw_55 ac_88 (by decide) cl_X12 rfl rfl (Nat.le_of_ble_eq_true rfl) (Nat.le_of_ble_eq_true rfl) ⟨Nat.le_refl _, Nat.le_refl _⟩ rfl (w.mono (fun r4 σ3 w => ?_))
      show XX g true (d + 1) P_X12_readAny 145 [(2, 88), (0, x1), (0, x2), (9, 0)] [(0, r4)] 136 σ3 136 Q
      refine E_if_eq 148 175 dX12_readAny_145 rfl rfl (fun h => ?_) (fun h => ?_)
      · have w := w.1 h
        refine E_aload_n 176 dX12_readAny_175 rfl (ac_88.bnd) rfl ?_
        refine E_bipush 178 dX12_readAny_176 (by decide) rfl ?_
        refine E_callV (as := [(0, 10)]) 181 dX12_readAny_178 cf_X12_settles mw_1499 mw_1501 mw_67 ac_88 (by decide) cl_X12 rfl rfl (Nat.le_of_ble_eq_true rfl) (Nat.le_of_ble_eq_true rfl) ⟨Nat.le_refl _, Nat.le_refl _⟩ rfl (w.mono (fun r6 σ5 w => ?_))
        show XX g true (d + 1) P_X12_readAny 181 [(2, 88), (0, x1), (0, x2), (9, 0)] [] 136 σ5 136 Q
        refine E_aload_n 182 dX12_readAny_181 rfl (ac_88.bnd) rfl ?_
        refine E_bipush 184 dX12_readAny_182 (by decide) rfl ?_
        refine E_callV (as := [(0, 11)]) 187 dX12_readAny_184 cf_X12_settles mw_1499 mw_1501 mw_67 ac_88 (by decide) cl_X12 rfl rfl (Nat.le_of_ble_eq_true rfl) (Nat.le_of_ble_eq_true rfl) ⟨Nat.le_refl _, Nat.le_refl _⟩ rfl (w.mono (fun r8 σ7 w => ?_))
        show XX g true (d + 1) P_X12_readAny 187 [(2, 88), (0, x1), (0, x2), (9, 0)] [] 136 σ7 136 Q
        refine E_iload_n 188 dX12_readAny_187 rfl rfl ?_
        refine E_if_ne 191 193 dX12_readAny_188 rfl rfl (fun h => ?_) (fun h => ?_)
        · have w := w.1 h
          refine E_aload_n 194 dX12_readAny_193 rfl (ac_88.bnd) rfl ?_
          refine E_bipush 196 dX12_readAny_194 (by decide) rfl ?_
          refine E_callV (as := [(0, 41)]) 199 dX12_readAny_196 cf_X12_isSign mw_1455 mw_1457 mw_56 ac_88 (by decide) cl_X12 rfl rfl (Nat.le_of_ble_eq_true rfl) (Nat.le_of_ble_eq_true rfl) ⟨Nat.le_refl _, Nat.le_refl _⟩ rfl (w.mono (fun r10 σ9 w => ?_))
          show XX g true (d + 1) P_X12_readAny 199 [(2, 88), (0, x1), (0, x2), (9, 0)] [(0, r10)] 136 σ9 136 Q
          refine E_if_ne 202 208 dX12_readAny_199 rfl rfl (fun h => ?_) (fun h => ?_)
          · have w := w.1 h
            refine E_aload_n 209 dX12_readAny_208 rfl (ac_88.bnd) rfl ?_
            refine E_aload_n 210 dX12_readAny_209 rfl (ac_88.bnd) rfl ?_
            refine E_get 35 213 dX12_readAny_210 fl_X12_267 ac_88 rfl (by decide) rfl rfl ?_
            refine E_iconst 214 dX12_readAny_213 (by decide) rfl ?_
            refine E_isub 215 dX12_readAny_214 rfl ?_
            refine E_putI 35 218 dX12_readAny_215 fl_X12_267 ac_88 rfl (by decide) (Or.inl rfl) rfl rfl ?_
            refine E_iload_n 219 dX12_readAny_218 rfl rfl ?_
            refine E_iconst 220 dX12_readAny_219 (by decide) rfl ?_
            refine E_isub 221 dX12_readAny_220 rfl ?_
            refine E_top (fun y11 hy11 => ?_)
            have w := w y11 hy11
            refine E_istore_n (ls' := [(2, 88), (0, y11), (0, x2), (9, 0)]) 222 dX12_readAny_221 (by decide) rfl rfl ?_
            refine E_aload_n 223 dX12_readAny_222 rfl (ac_88.bnd) rfl ?_
            refine E_aload_n 224 dX12_readAny_223 rfl (ac_88.bnd) rfl ?_
            refine E_get 33 227 dX12_readAny_224 fl_X12_270 ac_88 rfl (by decide) rfl rfl ?_
            refine E_conv (su_ne (Or.inr (by decide))) ?_
            refine E_iconst 228 dX12_readAny_227 (by decide) rfl ?_
            refine E_isub 229 dX12_readAny_228 rfl ?_
            refine E_putI 33 232 dX12_readAny_229 fl_X12_270 ac_88 rfl (by decide) (Or.inl rfl) rfl rfl ?_
            refine E_aload_n 233 dX12_readAny_232 rfl (ac_88.bnd) rfl ?_
            refine E_bipush 235 dX12_readAny_233 (by decide) rfl ?_
            refine E_callV (as := [(0, 9)]) 238 dX12_readAny_235 cf_X12_settles mw_1499 mw_1501 mw_67 ac_88 (by decide) cl_X12 rfl rfl (Nat.le_of_ble_eq_true rfl) (Nat.le_of_ble_eq_true rfl) ⟨Nat.le_refl _, Nat.le_refl _⟩ rfl (w.mono (fun r13 σ12 w => ?_))
            show XX g true (d + 1) P_X12_readAny 238 [(2, 88), (0, y11), (0, x2), (9, 0)] [] 136 σ12 136 Q
            refine E_aload_n 239 dX12_readAny_238 rfl (ac_88.bnd) rfl ?_
            refine E_callV (as := []) 242 dX12_readAny_239 cf_X12_reads mw_1407 mw_1409 mw_44 ac_88 (by decide) cl_X12 rfl rfl (Nat.le_of_ble_eq_true rfl) (Nat.le_of_ble_eq_true rfl) ⟨Nat.le_refl _, Nat.le_refl _⟩ rfl (w.mono (fun r15 σ14 w => ?_))
            show XX g true (d + 1) P_X12_readAny 242 [(2, 88), (0, y11), (0, x2), (9, 0)] [] 136 σ14 136 Q
            refine E_goto 9 dX12_readAny_242 rfl ?_
            with_reducible exact w
          · have w := w.2 h
            refine E_aload_n 203 dX12_readAny_202 rfl (ac_88.bnd) rfl ?_
            refine E_iconst 204 dX12_readAny_203 (by decide) rfl ?_
            refine E_callV (as := [(0, 1)]) 207 dX12_readAny_204 cf_X12_errs mw_1435 mw_1437 mw_51 ac_88 (by decide) cl_X12 rfl rfl (Nat.le_of_ble_eq_true rfl) (Nat.le_of_ble_eq_true rfl) ⟨Nat.le_refl _, Nat.le_refl _⟩ rfl (w.mono (fun r17 σ16 w => ?_))
            show XX g true (d + 1) P_X12_readAny 207 [(2, 88), (0, x1), (0, x2), (9, 0)] [(0, r17)] 136 σ16 136 Q
            exact E_iret dX12_readAny_207 rfl rfl w
        · have w := w.2 h
          refine E_iconst 192 dX12_readAny_191 (by decide) rfl ?_
          exact E_iret dX12_readAny_192 rfl rfl w
      · have w := w.2 h
        refine E_aload_n 149 dX12_readAny_148 rfl (ac_88.bnd) rfl ?_
        refine E_bipush 151 dX12_readAny_149 (by decide) rfl ?_
        refine E_callV (as := [(0, 10)]) 154 dX12_readAny_151 cf_X12_settles mw_1499 mw_1501 mw_67 ac_88 (by decide) cl_X12 rfl rfl (Nat.le_of_ble_eq_true rfl) (Nat.le_of_ble_eq_true rfl) ⟨Nat.le_refl _, Nat.le_refl _⟩ rfl (w.mono (fun r19 σ18 w => ?_))
        show XX g true (d + 1) P_X12_readAny 154 [(2, 88), (0, x1), (0, x2), (9, 0)] [] 136 σ18 136 Q
        refine E_aload_n 155 dX12_readAny_154 rfl (ac_88.bnd) rfl ?_
        refine E_bipush 157 dX12_readAny_155 (by decide) rfl ?_
        refine E_callV (as := [(0, 11)]) 160 dX12_readAny_157 cf_X12_settles mw_1499 mw_1501 mw_67 ac_88 (by decide) cl_X12 rfl rfl (Nat.le_of_ble_eq_true rfl) (Nat.le_of_ble_eq_true rfl) ⟨Nat.le_refl _, Nat.le_refl _⟩ rfl (w.mono (fun r21 σ20 w => ?_))
        show XX g true (d + 1) P_X12_readAny 160 [(2, 88), (0, x1), (0, x2), (9, 0)] [] 136 σ20 136 Q
        refine E_aload_n 161 dX12_readAny_160 rfl (ac_88.bnd) rfl ?_
        refine E_bipush 163 dX12_readAny_161 (by decide) rfl ?_
        refine E_callV (as := [(0, 11)]) 166 dX12_readAny_163 cf_X12_waits mw_1491 mw_1493 mw_65 ac_88 (by decide) cl_X12 rfl rfl (Nat.le_of_ble_eq_true rfl) (Nat.le_of_ble_eq_true rfl) ⟨Nat.le_refl _, Nat.le_refl _⟩ rfl (w.mono (fun r23 σ22 w => ?_))
        show XX g true (d + 1) P_X12_readAny 166 [(2, 88), (0, x1), (0, x2), (9, 0)] [] 136 σ22 136 Q
        refine E_aload_n 167 dX12_readAny_166 rfl (ac_88.bnd) rfl ?_
        refine E_callV (as := []) 170 dX12_readAny_167 cf_X12_reads mw_1407 mw_1409 mw_44 ac_88 (by decide) cl_X12 rfl rfl (Nat.le_of_ble_eq_true rfl) (Nat.le_of_ble_eq_true rfl) ⟨Nat.le_refl _, Nat.le_refl _⟩ rfl (w.mono (fun r25 σ24 w => ?_))
        show XX g true (d + 1) P_X12_readAny 170 [(2, 88), (0, x1), (0, x2), (9, 0)] [] 136 σ24 136 Q
        refine E_iconst 171 dX12_readAny_170 (by decide) rfl ?_
        refine E_istore_n (ls' := [(2, 88), (0, x1), (0, 1), (9, 0)]) 172 dX12_readAny_171 (by decide) rfl rfl ?_
        refine E_goto 9 dX12_readAny_172 rfl ?_
        with_reducible exact w
    · have w := w.2 h
      refine E_aload_n 119 dX12_readAny_118 rfl (ac_88.bnd) rfl ?_
      refine E_bipush 121 dX12_readAny_119 (by decide) rfl ?_
      refine E_callV (as := [(0, 10)]) 124 dX12_readAny_121 cf_X12_settles mw_1499 mw_1501 mw_67 ac_88 (by decide) cl_X12 rfl rfl (Nat.le_of_ble_eq_true rfl) (Nat.le_of_ble_eq_true rfl) ⟨Nat.le_refl _, Nat.le_refl _⟩ rfl (w.mono (fun r27 σ26 w => ?_))
      show XX g true (d + 1) P_X12_readAny 124 [(2, 88), (0, x1), (0, x2), (9, 0)] [] 136 σ26 136 Q
      refine E_aload_n 125 dX12_readAny_124 rfl (ac_88.bnd) rfl ?_
      refine E_bipush 127 dX12_readAny_125 (by decide) rfl ?_
      refine E_callV (as := [(0, 10)]) 130 dX12_readAny_127 cf_X12_waits mw_1491 mw_1493 mw_65 ac_88 (by decide) cl_X12 rfl rfl (Nat.le_of_ble_eq_true rfl) (Nat.le_of_ble_eq_true rfl) ⟨Nat.le_refl _, Nat.le_refl _⟩ rfl (w.mono (fun r29 σ28 w => ?_))
      show XX g true (d + 1) P_X12_readAny 130 [(2, 88), (0, x1), (0, x2), (9, 0)] [] 136 σ28 136 Q
      refine E_aload_n 131 dX12_readAny_130 rfl (ac_88.bnd) rfl ?_
      refine E_callV (as := []) 134 dX12_readAny_131 cf_X12_reads mw_1407 mw_1409 mw_44 ac_88 (by decide) cl_X12 rfl rfl (Nat.le_of_ble_eq_true rfl) (Nat.le_of_ble_eq_true rfl) ⟨Nat.le_refl _, Nat.le_refl _⟩ rfl (w.mono (fun r31 σ30 w => ?_))
      show XX g true (d + 1) P_X12_readAny 134 [(2, 88), (0, x1), (0, x2), (9, 0)] [] 136 σ30 136 Q
      refine E_iconst 135 dX12_readAny_134 (by decide) rfl ?_
      refine E_istore_n (ls' := [(2, 88), (0, x1), (0, 1), (9, 0)]) 136 dX12_readAny_135 (by decide) rfl rfl ?_
      refine E_goto 9 dX12_readAny_136 rfl ?_
      with_reducible exact w
  · have w := w.2 h
    refine E_aload_n 14 dX12_readAny_13 rfl (ac_88.bnd) rfl ?_
    refine E_bipush 16 dX12_readAny_14 (by decide) rfl ?_
    refine E_callV (as := [(0, 12)]) 19 dX12_readAny_16 cf_X12_isWord mw_1451 mw_1453 mw_55 ac_88 (by decide) cl_X12 rfl rfl (Nat.le_of_ble_eq_true rfl) (Nat.le_of_ble_eq_true rfl) ⟨Nat.le_refl _, Nat.le_refl _⟩ rfl (w.mono (fun r33 σ32 w => ?_))
    show XX g true (d + 1) P_X12_readAny 19 [(2, 88), (0, x1), (0, x2), (9, 0)] [(0, r33)] 136 σ32 136 Q
    refine E_istore_n (ls' := [(2, 88), (0, x1), (0, x2), (0, r33)]) 20 dX12_readAny_19 (by decide) rfl rfl ?_
    refine E_iload_n 21 dX12_readAny_20 rfl rfl ?_
    refine E_if_ne 24 33 dX12_readAny_21 rfl rfl (fun h => ?_) (fun h => ?_)
    · have w := w.1 h
      refine E_aload_n 34 dX12_readAny_33 rfl (ac_88.bnd) rfl ?_
      refine E_get 33 37 dX12_readAny_34 fl_X12_270 ac_88 rfl (by decide) rfl rfl ?_
      refine E_bipush 39 dX12_readAny_37 (by decide) rfl ?_
      refine E_icmp_ne 42 48 dX12_readAny_39 rfl rfl (fun h => ?_) (fun h => ?_)
      · have w := w.1 h
        refine E_aload_n 49 dX12_readAny_48 rfl (ac_88.bnd) rfl ?_
        refine E_aload_n 50 dX12_readAny_49 rfl (ac_88.bnd) rfl ?_
        refine E_get 33 53 dX12_readAny_50 fl_X12_270 ac_88 rfl (by decide) rfl rfl ?_
        refine E_iconst 54 dX12_readAny_53 (by decide) rfl ?_
        refine E_iadd 55 dX12_readAny_54 rfl ?_
        refine E_putI 33 58 dX12_readAny_55 fl_X12_270 ac_88 rfl (by decide) (Or.inl rfl) rfl rfl ?_
        refine E_iload_n 59 dX12_readAny_58 rfl rfl ?_
        refine E_if_ne 62 66 dX12_readAny_59 rfl rfl (fun h => ?_) (fun h => ?_)
        · have w := w.1 h
          refine E_aload_n 67 dX12_readAny_66 rfl (ac_88.bnd) rfl ?_
          refine E_iload_n 68 dX12_readAny_67 rfl rfl ?_
          refine E_if_eq 71 76 dX12_readAny_68 rfl rfl (fun h => ?_) (fun h => ?_)
          · have w := w.1 h
            refine E_bipush 78 dX12_readAny_76 (by decide) rfl ?_
            refine E_callV (as := [(0, 12)]) 81 dX12_readAny_78 cf_X12_waits mw_1491 mw_1493 mw_65 ac_88 (by decide) cl_X12 rfl rfl (Nat.le_of_ble_eq_true rfl) (Nat.le_of_ble_eq_true rfl) ⟨Nat.le_refl _, Nat.le_refl _⟩ rfl (w.mono (fun r35 σ34 w => ?_))
            show XX g true (d + 1) P_X12_readAny 81 [(2, 88), (0, x1), (0, x2), (0, r33)] [] 136 σ34 136 Q
            refine E_aload_n 82 dX12_readAny_81 rfl (ac_88.bnd) rfl ?_
            refine E_callV (as := []) 85 dX12_readAny_82 cf_X12_reads mw_1407 mw_1409 mw_44 ac_88 (by decide) cl_X12 rfl rfl (Nat.le_of_ble_eq_true rfl) (Nat.le_of_ble_eq_true rfl) ⟨Nat.le_refl _, Nat.le_refl _⟩ rfl (w.mono (fun r37 σ36 w => ?_))
            show XX g true (d + 1) P_X12_readAny 85 [(2, 88), (0, x1), (0, x2), (0, r33)] [] 136 σ36 136 Q
            refine E_goto 9 dX12_readAny_85 rfl ?_
            refine XX.fg [3] [(2, 88), (0, x1), (0, x2), (9, 0)] rfl ?_
            with_reducible exact w
          · have w := w.2 h
            refine E_bipush 73 dX12_readAny_71 (by decide) rfl ?_
            refine E_goto 78 dX12_readAny_73 rfl ?_
            refine E_callV (as := [(0, 9)]) 81 dX12_readAny_78 cf_X12_waits mw_1491 mw_1493 mw_65 ac_88 (by decide) cl_X12 rfl rfl (Nat.le_of_ble_eq_true rfl) (Nat.le_of_ble_eq_true rfl) ⟨Nat.le_refl _, Nat.le_refl _⟩ rfl (w.mono (fun r39 σ38 w => ?_))
            show XX g true (d + 1) P_X12_readAny 81 [(2, 88), (0, x1), (0, x2), (0, r33)] [] 136 σ38 136 Q
            refine E_aload_n 82 dX12_readAny_81 rfl (ac_88.bnd) rfl ?_
            refine E_callV (as := []) 85 dX12_readAny_82 cf_X12_reads mw_1407 mw_1409 mw_44 ac_88 (by decide) cl_X12 rfl rfl (Nat.le_of_ble_eq_true rfl) (Nat.le_of_ble_eq_true rfl) ⟨Nat.le_refl _, Nat.le_refl _⟩ rfl (w.mono (fun r41 σ40 w => ?_))
            show XX g true (d + 1) P_X12_readAny 85 [(2, 88), (0, x1), (0, x2), (0, r33)] [] 136 σ40 136 Q
            refine E_goto 9 dX12_readAny_85 rfl ?_
            refine XX.fg [3] [(2, 88), (0, x1), (0, x2), (9, 0)] rfl ?_
            with_reducible exact w
        · have w := w.2 h
          refine E_iload_n 63 dX12_readAny_62 rfl rfl ?_
          refine E_iconst 64 dX12_readAny_63 (by decide) rfl ?_
          refine E_iadd 65 dX12_readAny_64 rfl ?_
          refine E_top (fun y42 hy42 => ?_)
          have w := w y42 hy42
          refine E_istore_n (ls' := [(2, 88), (0, y42), (0, x2), (0, r33)]) 66 dX12_readAny_65 (by decide) rfl rfl ?_
          refine E_aload_n 67 dX12_readAny_66 rfl (ac_88.bnd) rfl ?_
          refine E_iload_n 68 dX12_readAny_67 rfl rfl ?_
          refine E_if_eq 71 76 dX12_readAny_68 rfl rfl (fun h => ?_) (fun h => ?_)
          · have w := w.1 h
            refine E_bipush 78 dX12_readAny_76 (by decide) rfl ?_
            refine E_callV (as := [(0, 12)]) 81 dX12_readAny_78 cf_X12_waits mw_1491 mw_1493 mw_65 ac_88 (by decide) cl_X12 rfl rfl (Nat.le_of_ble_eq_true rfl) (Nat.le_of_ble_eq_true rfl) ⟨Nat.le_refl _, Nat.le_refl _⟩ rfl (w.mono (fun r44 σ43 w => ?_))
            show XX g true (d + 1) P_X12_readAny 81 [(2, 88), (0, y42), (0, x2), (0, r33)] [] 136 σ43 136 Q
            refine E_aload_n 82 dX12_readAny_81 rfl (ac_88.bnd) rfl ?_
            refine E_callV (as := []) 85 dX12_readAny_82 cf_X12_reads mw_1407 mw_1409 mw_44 ac_88 (by decide) cl_X12 rfl rfl (Nat.le_of_ble_eq_true rfl) (Nat.le_of_ble_eq_true rfl) ⟨Nat.le_refl _, Nat.le_refl _⟩ rfl (w.mono (fun r46 σ45 w => ?_))
            show XX g true (d + 1) P_X12_readAny 85 [(2, 88), (0, y42), (0, x2), (0, r33)] [] 136 σ45 136 Q
            refine E_goto 9 dX12_readAny_85 rfl ?_
            refine XX.fg [3] [(2, 88), (0, y42), (0, x2), (9, 0)] rfl ?_
            with_reducible exact w
          · have w := w.2 h
            refine E_bipush 73 dX12_readAny_71 (by decide) rfl ?_
            refine E_goto 78 dX12_readAny_73 rfl ?_
            refine E_callV (as := [(0, 9)]) 81 dX12_readAny_78 cf_X12_waits mw_1491 mw_1493 mw_65 ac_88 (by decide) cl_X12 rfl rfl (Nat.le_of_ble_eq_true rfl) (Nat.le_of_ble_eq_true rfl) ⟨Nat.le_refl _, Nat.le_refl _⟩ rfl (w.mono (fun r48 σ47 w => ?_))
            show XX g true (d + 1) P_X12_readAny 81 [(2, 88), (0, y42), (0, x2), (0, r33)] [] 136 σ47 136 Q
            refine E_aload_n 82 dX12_readAny_81 rfl (ac_88.bnd) rfl ?_
            refine E_callV (as := []) 85 dX12_readAny_82 cf_X12_reads mw_1407 mw_1409 mw_44 ac_88 (by decide) cl_X12 rfl rfl (Nat.le_of_ble_eq_true rfl) (Nat.le_of_ble_eq_true rfl) ⟨Nat.le_refl _, Nat.le_refl _⟩ rfl (w.mono (fun r50 σ49 w => ?_))
            show XX g true (d + 1) P_X12_readAny 85 [(2, 88), (0, y42), (0, x2), (0, r33)] [] 136 σ49 136 Q
            refine E_goto 9 dX12_readAny_85 rfl ?_
            refine XX.fg [3] [(2, 88), (0, y42), (0, x2), (9, 0)] rfl ?_
            with_reducible exact w
      · have w := w.2 h
        refine E_aload_n 43 dX12_readAny_42 rfl (ac_88.bnd) rfl ?_
        refine E_iconst 44 dX12_readAny_43 (by decide) rfl ?_
        refine E_callV (as := [(0, 3)]) 47 dX12_readAny_44 cf_X12_errs mw_1435 mw_1437 mw_51 ac_88 (by decide) cl_X12 rfl rfl (Nat.le_of_ble_eq_true rfl) (Nat.le_of_ble_eq_true rfl) ⟨Nat.le_refl _, Nat.le_refl _⟩ rfl (w.mono (fun r52 σ51 w => ?_))
        show XX g true (d + 1) P_X12_readAny 47 [(2, 88), (0, x1), (0, x2), (0, r33)] [(0, r52)] 136 σ51 136 Q
        exact E_iret dX12_readAny_47 rfl rfl w
    · have w := w.2 h
      refine E_aload_n 25 dX12_readAny_24 rfl (ac_88.bnd) rfl ?_
      refine E_bipush 27 dX12_readAny_25 (by decide) rfl ?_
      refine E_callV (as := [(0, 40)]) 30 dX12_readAny_27 cf_X12_isSign mw_1455 mw_1457 mw_56 ac_88 (by decide) cl_X12 rfl rfl (Nat.le_of_ble_eq_true rfl) (Nat.le_of_ble_eq_true rfl) ⟨Nat.le_refl _, Nat.le_refl _⟩ rfl (w.mono (fun r54 σ53 w => ?_))
      show XX g true (d + 1) P_X12_readAny 30 [(2, 88), (0, x1), (0, x2), (0, r33)] [(0, r54)] 136 σ53 136 Q
      refine E_if_eq 33 88 dX12_readAny_30 rfl rfl (fun h => ?_) (fun h => ?_)
      · have w := w.1 h
        refine E_aload_n 89 dX12_readAny_88 rfl (ac_88.bnd) rfl ?_
        refine E_callV (as := []) 92 dX12_readAny_89 cf_X12_readCompared mw_1495 mw_1497 mw_66 ac_88 (by decide) cl_X12 rfl rfl (Nat.le_of_ble_eq_true rfl) (Nat.le_of_ble_eq_true rfl) ⟨Nat.le_refl _, Nat.le_refl _⟩ rfl (w.mono (fun r56 σ55 w => ?_))
        show XX g true (d + 1) P_X12_readAny 92 [(2, 88), (0, x1), (0, x2), (0, r33)] [(0, r56)] 136 σ55 136 Q
        refine E_iconst 93 dX12_readAny_92 (by decide) rfl ?_
        refine E_icmp_ne 96 98 dX12_readAny_93 rfl rfl (fun h => ?_) (fun h => ?_)
        · have w := w.1 h
          refine E_aload_n 99 dX12_readAny_98 rfl (ac_88.bnd) rfl ?_
          refine E_bipush 101 dX12_readAny_99 (by decide) rfl ?_
          refine E_callV (as := [(0, 9)]) 104 dX12_readAny_101 cf_X12_settles mw_1499 mw_1501 mw_67 ac_88 (by decide) cl_X12 rfl rfl (Nat.le_of_ble_eq_true rfl) (Nat.le_of_ble_eq_true rfl) ⟨Nat.le_refl _, Nat.le_refl _⟩ rfl (w.mono (fun r58 σ57 w => ?_))
          show XX g true (d + 1) P_X12_readAny 104 [(2, 88), (0, x1), (0, x2), (0, r33)] [] 136 σ57 136 Q
          refine E_iconst 105 dX12_readAny_104 (by decide) rfl ?_
          refine E_istore_n (ls' := [(2, 88), (0, x1), (0, 0), (0, r33)]) 106 dX12_readAny_105 (by decide) rfl rfl ?_
          refine E_goto 9 dX12_readAny_106 rfl ?_
          refine XX.fg [3] [(2, 88), (0, x1), (0, 0), (9, 0)] rfl ?_
          with_reducible exact w
        · have w := w.2 h
          refine E_iconst 97 dX12_readAny_96 (by decide) rfl ?_
          exact E_iret dX12_readAny_97 rfl rfl w
      · have w := w.2 h
        refine E_aload_n 34 dX12_readAny_33 rfl (ac_88.bnd) rfl ?_
        refine E_get 33 37 dX12_readAny_34 fl_X12_270 ac_88 rfl (by decide) rfl rfl ?_
        refine E_bipush 39 dX12_readAny_37 (by decide) rfl ?_
        refine E_icmp_ne 42 48 dX12_readAny_39 rfl rfl (fun h => ?_) (fun h => ?_)
        · have w := w.1 h
          refine E_aload_n 49 dX12_readAny_48 rfl (ac_88.bnd) rfl ?_
          refine E_aload_n 50 dX12_readAny_49 rfl (ac_88.bnd) rfl ?_
          refine E_get 33 53 dX12_readAny_50 fl_X12_270 ac_88 rfl (by decide) rfl rfl ?_
          refine E_iconst 54 dX12_readAny_53 (by decide) rfl ?_
          refine E_iadd 55 dX12_readAny_54 rfl ?_
          refine E_putI 33 58 dX12_readAny_55 fl_X12_270 ac_88 rfl (by decide) (Or.inl rfl) rfl rfl ?_
          refine E_iload_n 59 dX12_readAny_58 rfl rfl ?_
          refine E_if_ne 62 66 dX12_readAny_59 rfl rfl (fun h => ?_) (fun h => ?_)
          · have w := w.1 h
            refine E_aload_n 67 dX12_readAny_66 rfl (ac_88.bnd) rfl ?_
            refine E_iload_n 68 dX12_readAny_67 rfl rfl ?_
            refine E_if_eq 71 76 dX12_readAny_68 rfl rfl (fun h => ?_) (fun h => ?_)
            · have w := w.1 h
              refine E_bipush 78 dX12_readAny_76 (by decide) rfl ?_
              refine E_callV (as := [(0, 12)]) 81 dX12_readAny_78 cf_X12_waits mw_1491 mw_1493 mw_65 ac_88 (by decide) cl_X12 rfl rfl (Nat.le_of_ble_eq_true rfl) (Nat.le_of_ble_eq_true rfl) ⟨Nat.le_refl _, Nat.le_refl _⟩ rfl (w.mono (fun r60 σ59 w => ?_))
              show XX g true (d + 1) P_X12_readAny 81 [(2, 88), (0, x1), (0, x2), (0, r33)] [] 136 σ59 136 Q
              refine E_aload_n 82 dX12_readAny_81 rfl (ac_88.bnd) rfl ?_
              refine E_callV (as := []) 85 dX12_readAny_82 cf_X12_reads mw_1407 mw_1409 mw_44 ac_88 (by decide) cl_X12 rfl rfl (Nat.le_of_ble_eq_true rfl) (Nat.le_of_ble_eq_true rfl) ⟨Nat.le_refl _, Nat.le_refl _⟩ rfl (w.mono (fun r62 σ61 w => ?_))
              show XX g true (d + 1) P_X12_readAny 85 [(2, 88), (0, x1), (0, x2), (0, r33)] [] 136 σ61 136 Q
              refine E_goto 9 dX12_readAny_85 rfl ?_
              refine XX.fg [3] [(2, 88), (0, x1), (0, x2), (9, 0)] rfl ?_
              with_reducible exact w
            · have w := w.2 h
              refine E_bipush 73 dX12_readAny_71 (by decide) rfl ?_
              refine E_goto 78 dX12_readAny_73 rfl ?_
              refine E_callV (as := [(0, 9)]) 81 dX12_readAny_78 cf_X12_waits mw_1491 mw_1493 mw_65 ac_88 (by decide) cl_X12 rfl rfl (Nat.le_of_ble_eq_true rfl) (Nat.le_of_ble_eq_true rfl) ⟨Nat.le_refl _, Nat.le_refl _⟩ rfl (w.mono (fun r64 σ63 w => ?_))
              show XX g true (d + 1) P_X12_readAny 81 [(2, 88), (0, x1), (0, x2), (0, r33)] [] 136 σ63 136 Q
              refine E_aload_n 82 dX12_readAny_81 rfl (ac_88.bnd) rfl ?_
              refine E_callV (as := []) 85 dX12_readAny_82 cf_X12_reads mw_1407 mw_1409 mw_44 ac_88 (by decide) cl_X12 rfl rfl (Nat.le_of_ble_eq_true rfl) (Nat.le_of_ble_eq_true rfl) ⟨Nat.le_refl _, Nat.le_refl _⟩ rfl (w.mono (fun r66 σ65 w => ?_))
              show XX g true (d + 1) P_X12_readAny 85 [(2, 88), (0, x1), (0, x2), (0, r33)] [] 136 σ65 136 Q
              refine E_goto 9 dX12_readAny_85 rfl ?_
              refine XX.fg [3] [(2, 88), (0, x1), (0, x2), (9, 0)] rfl ?_
              with_reducible exact w
          · have w := w.2 h
            refine E_iload_n 63 dX12_readAny_62 rfl rfl ?_
            refine E_iconst 64 dX12_readAny_63 (by decide) rfl ?_
            refine E_iadd 65 dX12_readAny_64 rfl ?_
            refine E_top (fun y67 hy67 => ?_)
            have w := w y67 hy67
            refine E_istore_n (ls' := [(2, 88), (0, y67), (0, x2), (0, r33)]) 66 dX12_readAny_65 (by decide) rfl rfl ?_
            refine E_aload_n 67 dX12_readAny_66 rfl (ac_88.bnd) rfl ?_
            refine E_iload_n 68 dX12_readAny_67 rfl rfl ?_
            refine E_if_eq 71 76 dX12_readAny_68 rfl rfl (fun h => ?_) (fun h => ?_)
            · have w := w.1 h
              refine E_bipush 78 dX12_readAny_76 (by decide) rfl ?_
              refine E_callV (as := [(0, 12)]) 81 dX12_readAny_78 cf_X12_waits mw_1491 mw_1493 mw_65 ac_88 (by decide) cl_X12 rfl rfl (Nat.le_of_ble_eq_true rfl) (Nat.le_of_ble_eq_true rfl) ⟨Nat.le_refl _, Nat.le_refl _⟩ rfl (w.mono (fun r69 σ68 w => ?_))
              show XX g true (d + 1) P_X12_readAny 81 [(2, 88), (0, y67), (0, x2), (0, r33)] [] 136 σ68 136 Q
              refine E_aload_n 82 dX12_readAny_81 rfl (ac_88.bnd) rfl ?_
              refine E_callV (as := []) 85 dX12_readAny_82 cf_X12_reads mw_1407 mw_1409 mw_44 ac_88 (by decide) cl_X12 rfl rfl (Nat.le_of_ble_eq_true rfl) (Nat.le_of_ble_eq_true rfl) ⟨Nat.le_refl _, Nat.le_refl _⟩ rfl (w.mono (fun r71 σ70 w => ?_))
              show XX g true (d + 1) P_X12_readAny 85 [(2, 88), (0, y67), (0, x2), (0, r33)] [] 136 σ70 136 Q
              refine E_goto 9 dX12_readAny_85 rfl ?_
              refine XX.fg [3] [(2, 88), (0, y67), (0, x2), (9, 0)] rfl ?_
              with_reducible exact w
            · have w := w.2 h
              refine E_bipush 73 dX12_readAny_71 (by decide) rfl ?_
              refine E_goto 78 dX12_readAny_73 rfl ?_
              refine E_callV (as := [(0, 9)]) 81 dX12_readAny_78 cf_X12_waits mw_1491 mw_1493 mw_65 ac_88 (by decide) cl_X12 rfl rfl (Nat.le_of_ble_eq_true rfl) (Nat.le_of_ble_eq_true rfl) ⟨Nat.le_refl _, Nat.le_refl _⟩ rfl (w.mono (fun r73 σ72 w => ?_))
              show XX g true (d + 1) P_X12_readAny 81 [(2, 88), (0, y67), (0, x2), (0, r33)] [] 136 σ72 136 Q
              refine E_aload_n 82 dX12_readAny_81 rfl (ac_88.bnd) rfl ?_
              refine E_callV (as := []) 85 dX12_readAny_82 cf_X12_reads mw_1407 mw_1409 mw_44 ac_88 (by decide) cl_X12 rfl rfl (Nat.le_of_ble_eq_true rfl) (Nat.le_of_ble_eq_true rfl) ⟨Nat.le_refl _, Nat.le_refl _⟩ rfl (w.mono (fun r75 σ74 w => ?_))
              show XX g true (d + 1) P_X12_readAny 85 [(2, 88), (0, y67), (0, x2), (0, r33)] [] 136 σ74 136 Q
              refine E_goto 9 dX12_readAny_85 rfl ?_
              refine XX.fg [3] [(2, 88), (0, y67), (0, x2), (9, 0)] rfl ?_
              with_reducible exact w
        · have w := w.2 h
          refine E_aload_n 43 dX12_readAny_42 rfl (ac_88.bnd) rfl ?_
          refine E_iconst 44 dX12_readAny_43 (by decide) rfl ?_
          refine E_callV (as := [(0, 3)]) 47 dX12_readAny_44 cf_X12_errs mw_1435 mw_1437 mw_51 ac_88 (by decide) cl_X12 rfl rfl (Nat.le_of_ble_eq_true rfl) (Nat.le_of_ble_eq_true rfl) ⟨Nat.le_refl _, Nat.le_refl _⟩ rfl (w.mono (fun r77 σ76 w => ?_))
          show XX g true (d + 1) P_X12_readAny 47 [(2, 88), (0, x1), (0, x2), (0, r33)] [(0, r77)] 136 σ76 136 Q
          exact E_iret dX12_readAny_47 rfl rfl w
theorem B_X12_readLine_0 {g : PG} {d : Nat} {σ : PS} {Q : Int → PS → Prop} {x1 : Int}  (w : XX g true d P_X12_reads 0 [(2, 88), (9, 0)] [] 136 σ 136 (fun _ σ1 => (0 ≤ x1 ∧ x1 < 64) ∧ XX g true d P_X12_readSum 0 [(2, 88), (9, 0)] [] 136 (su σ1 101 x1 (σ1 88 32)) 136 (fun r5 σ4 => ((r5 ≠ (-1) → XX g true d P_X12_isWord 0 [(2, 88), (0, 9)] [] 136 (su σ4 102 x1 (σ4 88 32)) 136 (fun r7 σ6 => ((r7 = 0 → XX g true d P_X12_isSign 0 [(2, 88), (0, 59)] [] 136 (su σ6 103 x1 (σ6 88 32)) 136 (fun r9 σ8 => ((r9 ≠ 0 → XX g true d P_X12_reads 0 [(2, 88), (9, 0)] [] 136 σ8 136 (fun _ σ10 => Q 0 σ10)) ∧ (r9 = 0 → XX g true d P_X12_errs 0 [(2, 88), (0, 1)] [] 136 σ8 136 (fun r13 σ12 => Q r13 σ12))))) ∧ (r7 ≠ 0 → XX g true d P_X12_reads 0 [(2, 88), (9, 0)] [] 136 σ6 136 (fun _ σ14 => XX g true d P_X12_readAny 0 [(2, 88), (9, 0), (9, 0), (9, 0)] [] 136 σ14 136 (fun r17 σ16 => ((r17 ≠ (-1) → XX g true d P_X12_isSign 0 [(2, 88), (0, 59)] [] 136 (su σ16 103 x1 (σ16 88 32)) 136 (fun r19 σ18 => ((r19 ≠ 0 → XX g true d P_X12_reads 0 [(2, 88), (9, 0)] [] 136 σ18 136 (fun _ σ20 => Q 0 σ20)) ∧ (r19 = 0 → XX g true d P_X12_errs 0 [(2, 88), (0, 1)] [] 136 σ18 136 (fun r23 σ22 => Q r23 σ22))))) ∧ (r17 = (-1) → Q (-1) σ16)))))))) ∧ (r5 = (-1) → Q (-1) σ4))))) : XX g true (d + 1) P_X12_readLine 0 [(2, 88), (0, x1)] [] 136 σ 136 Q := by
  refine E_aload_n 1 dX12_readLine_0 rfl (ac_88.bnd) rfl ?_
  refine E_callV (as := []) 4 dX12_readLine_1 cf_X12_reads mw_1407 mw_1409 mw_44 ac_88 (by decide) cl_X12 rfl rfl (Nat.le_of_ble_eq_true rfl) (Nat.le_of_ble_eq_true rfl) ⟨Nat.le_refl _, Nat.le_refl _⟩ rfl (w.mono (fun r2 σ1 w => ?_))
  show XX g true (d + 1) P_X12_readLine 4 [(2, 88), (0, x1)] [] 136 σ1 136 Q
  refine E_aload_n 5 dX12_readLine_4 rfl (ac_88.bnd) rfl ?_
  refine E_getL 8 dX12_readLine_5 fl_X12_53 ac_88 rfl (by decide) lay_88_26 rfl ?_
  refine E_iload_n 9 dX12_readLine_8 rfl rfl ?_
  refine E_aload_n 10 dX12_readLine_9 rfl (ac_88.bnd) rfl ?_
  refine E_get 32 13 dX12_readLine_10 fl_X12_233 ac_88 rfl (by decide) rfl rfl ?_
  obtain ⟨c3, w⟩ := w
  refine E_iast 14 dX12_readLine_13 ac_101 c3 rfl ?_
  refine E_aload_n 15 dX12_readLine_14 rfl (ac_88.bnd) rfl ?_
  refine E_callV (as := []) 18 dX12_readLine_15 cf_X12_readSum mw_1467 mw_1469 mw_59 ac_88 (by decide) cl_X12 rfl rfl (Nat.le_of_ble_eq_true rfl) (Nat.le_of_ble_eq_true rfl) ⟨Nat.le_refl _, Nat.le_refl _⟩ rfl (w.mono (fun r5 σ4 w => ?_))
  show XX g true (d + 1) P_X12_readLine 18 [(2, 88), (0, x1)] [(0, r5)] 136 σ4 136 Q
  refine E_iconst 19 dX12_readLine_18 (by decide) rfl ?_
  refine E_icmp_ne 22 24 dX12_readLine_19 rfl rfl (fun h => ?_) (fun h => ?_)
  · have w := w.1 h
    refine E_aload_n 25 dX12_readLine_24 rfl (ac_88.bnd) rfl ?_
    refine E_getL 28 dX12_readLine_25 fl_X12_56 ac_88 rfl (by decide) lay_88_27 rfl ?_
    refine E_iload_n 29 dX12_readLine_28 rfl rfl ?_
    refine E_aload_n 30 dX12_readLine_29 rfl (ac_88.bnd) rfl ?_
    refine E_get 32 33 dX12_readLine_30 fl_X12_233 ac_88 rfl (by decide) rfl rfl ?_
    refine E_iast 34 dX12_readLine_33 ac_102 c3 rfl ?_
    refine E_aload_n 35 dX12_readLine_34 rfl (ac_88.bnd) rfl ?_
    refine E_bipush 37 dX12_readLine_35 (by decide) rfl ?_
    refine E_callV (as := [(0, 9)]) 40 dX12_readLine_37 cf_X12_isWord mw_1451 mw_1453 mw_55 ac_88 (by decide) cl_X12 rfl rfl (Nat.le_of_ble_eq_true rfl) (Nat.le_of_ble_eq_true rfl) ⟨Nat.le_refl _, Nat.le_refl _⟩ rfl (w.mono (fun r7 σ6 w => ?_))
    show XX g true (d + 1) P_X12_readLine 40 [(2, 88), (0, x1)] [(0, r7)] 136 σ6 136 Q
    refine E_if_eq 43 57 dX12_readLine_40 rfl rfl (fun h => ?_) (fun h => ?_)
    · have w := w.1 h
      refine E_aload_n 58 dX12_readLine_57 rfl (ac_88.bnd) rfl ?_
      refine E_getL 61 dX12_readLine_58 fl_X12_59 ac_88 rfl (by decide) lay_88_28 rfl ?_
      refine E_iload_n 62 dX12_readLine_61 rfl rfl ?_
      refine E_aload_n 63 dX12_readLine_62 rfl (ac_88.bnd) rfl ?_
      refine E_get 32 66 dX12_readLine_63 fl_X12_233 ac_88 rfl (by decide) rfl rfl ?_
      refine E_iast 67 dX12_readLine_66 ac_103 c3 rfl ?_
      refine E_aload_n 68 dX12_readLine_67 rfl (ac_88.bnd) rfl ?_
      refine E_bipush 70 dX12_readLine_68 (by decide) rfl ?_
      refine E_callV (as := [(0, 59)]) 73 dX12_readLine_70 cf_X12_isSign mw_1455 mw_1457 mw_56 ac_88 (by decide) cl_X12 rfl rfl (Nat.le_of_ble_eq_true rfl) (Nat.le_of_ble_eq_true rfl) ⟨Nat.le_refl _, Nat.le_refl _⟩ rfl (w.mono (fun r9 σ8 w => ?_))
      show XX g true (d + 1) P_X12_readLine 73 [(2, 88), (0, x1)] [(0, r9)] 136 σ8 136 Q
      refine E_if_ne 76 82 dX12_readLine_73 rfl rfl (fun h => ?_) (fun h => ?_)
      · have w := w.1 h
        refine E_aload_n 83 dX12_readLine_82 rfl (ac_88.bnd) rfl ?_
        refine E_callV (as := []) 86 dX12_readLine_83 cf_X12_reads mw_1407 mw_1409 mw_44 ac_88 (by decide) cl_X12 rfl rfl (Nat.le_of_ble_eq_true rfl) (Nat.le_of_ble_eq_true rfl) ⟨Nat.le_refl _, Nat.le_refl _⟩ rfl (w.mono (fun r11 σ10 w => ?_))
        show XX g true (d + 1) P_X12_readLine 86 [(2, 88), (0, x1)] [] 136 σ10 136 Q
        refine E_iconst 87 dX12_readLine_86 (by decide) rfl ?_
        exact E_iret dX12_readLine_87 rfl rfl w
      · have w := w.2 h
        refine E_aload_n 77 dX12_readLine_76 rfl (ac_88.bnd) rfl ?_
        refine E_iconst 78 dX12_readLine_77 (by decide) rfl ?_
        refine E_callV (as := [(0, 1)]) 81 dX12_readLine_78 cf_X12_errs mw_1435 mw_1437 mw_51 ac_88 (by decide) cl_X12 rfl rfl (Nat.le_of_ble_eq_true rfl) (Nat.le_of_ble_eq_true rfl) ⟨Nat.le_refl _, Nat.le_refl _⟩ rfl (w.mono (fun r13 σ12 w => ?_))
        show XX g true (d + 1) P_X12_readLine 81 [(2, 88), (0, x1)] [(0, r13)] 136 σ12 136 Q
        exact E_iret dX12_readLine_81 rfl rfl w
    · have w := w.2 h
      refine E_aload_n 44 dX12_readLine_43 rfl (ac_88.bnd) rfl ?_
      refine E_callV (as := []) 47 dX12_readLine_44 cf_X12_reads mw_1407 mw_1409 mw_44 ac_88 (by decide) cl_X12 rfl rfl (Nat.le_of_ble_eq_true rfl) (Nat.le_of_ble_eq_true rfl) ⟨Nat.le_refl _, Nat.le_refl _⟩ rfl (w.mono (fun r15 σ14 w => ?_))
      show XX g true (d + 1) P_X12_readLine 47 [(2, 88), (0, x1)] [] 136 σ14 136 Q
      refine E_aload_n 48 dX12_readLine_47 rfl (ac_88.bnd) rfl ?_
      refine E_callV (as := []) 51 dX12_readLine_48 cf_X12_readAny mw_1487 mw_1489 mw_64 ac_88 (by decide) cl_X12 rfl rfl (Nat.le_of_ble_eq_true rfl) (Nat.le_of_ble_eq_true rfl) ⟨Nat.le_refl _, Nat.le_refl _⟩ rfl (w.mono (fun r17 σ16 w => ?_))
      show XX g true (d + 1) P_X12_readLine 51 [(2, 88), (0, x1)] [(0, r17)] 136 σ16 136 Q
      refine E_iconst 52 dX12_readLine_51 (by decide) rfl ?_
      refine E_icmp_ne 55 57 dX12_readLine_52 rfl rfl (fun h => ?_) (fun h => ?_)
      · have w := w.1 h
        refine E_aload_n 58 dX12_readLine_57 rfl (ac_88.bnd) rfl ?_
        refine E_getL 61 dX12_readLine_58 fl_X12_59 ac_88 rfl (by decide) lay_88_28 rfl ?_
        refine E_iload_n 62 dX12_readLine_61 rfl rfl ?_
        refine E_aload_n 63 dX12_readLine_62 rfl (ac_88.bnd) rfl ?_
        refine E_get 32 66 dX12_readLine_63 fl_X12_233 ac_88 rfl (by decide) rfl rfl ?_
        refine E_iast 67 dX12_readLine_66 ac_103 c3 rfl ?_
        refine E_aload_n 68 dX12_readLine_67 rfl (ac_88.bnd) rfl ?_
        refine E_bipush 70 dX12_readLine_68 (by decide) rfl ?_
        refine E_callV (as := [(0, 59)]) 73 dX12_readLine_70 cf_X12_isSign mw_1455 mw_1457 mw_56 ac_88 (by decide) cl_X12 rfl rfl (Nat.le_of_ble_eq_true rfl) (Nat.le_of_ble_eq_true rfl) ⟨Nat.le_refl _, Nat.le_refl _⟩ rfl (w.mono (fun r19 σ18 w => ?_))
        show XX g true (d + 1) P_X12_readLine 73 [(2, 88), (0, x1)] [(0, r19)] 136 σ18 136 Q
        refine E_if_ne 76 82 dX12_readLine_73 rfl rfl (fun h => ?_) (fun h => ?_)
        · have w := w.1 h
          refine E_aload_n 83 dX12_readLine_82 rfl (ac_88.bnd) rfl ?_
          refine E_callV (as := []) 86 dX12_readLine_83 cf_X12_reads mw_1407 mw_1409 mw_44 ac_88 (by decide) cl_X12 rfl rfl (Nat.le_of_ble_eq_true rfl) (Nat.le_of_ble_eq_true rfl) ⟨Nat.le_refl _, Nat.le_refl _⟩ rfl (w.mono (fun r21 σ20 w => ?_))
          show XX g true (d + 1) P_X12_readLine 86 [(2, 88), (0, x1)] [] 136 σ20 136 Q
          refine E_iconst 87 dX12_readLine_86 (by decide) rfl ?_
          exact E_iret dX12_readLine_87 rfl rfl w
        · have w := w.2 h
          refine E_aload_n 77 dX12_readLine_76 rfl (ac_88.bnd) rfl ?_
          refine E_iconst 78 dX12_readLine_77 (by decide) rfl ?_
          refine E_callV (as := [(0, 1)]) 81 dX12_readLine_78 cf_X12_errs mw_1435 mw_1437 mw_51 ac_88 (by decide) cl_X12 rfl rfl (Nat.le_of_ble_eq_true rfl) (Nat.le_of_ble_eq_true rfl) ⟨Nat.le_refl _, Nat.le_refl _⟩ rfl (w.mono (fun r23 σ22 w => ?_))
          show XX g true (d + 1) P_X12_readLine 81 [(2, 88), (0, x1)] [(0, r23)] 136 σ22 136 Q
          exact E_iret dX12_readLine_81 rfl rfl w
      · have w := w.2 h
        refine E_iconst 56 dX12_readLine_55 (by decide) rfl ?_
        exact E_iret dX12_readLine_56 rfl rfl w
  · have w := w.2 h
    refine E_iconst 23 dX12_readLine_22 (by decide) rfl ?_
    exact E_iret dX12_readLine_23 rfl rfl w
theorem B_X12_readLaw_0 {g : PG} {d : Nat} {σ : PS} {Q : Int → PS → Prop}  (w : (XX g true (d + 1) P_X12_readLaw 2 [(2, 88), (0, 0)] [] 136 σ 136 Q)) : XX g true (d + 1) P_X12_readLaw 0 [(2, 88), (9, 0)] [] 136 σ 136 Q := by
  refine E_iconst 1 dX12_readLaw_0 (by decide) rfl ?_
  refine E_istore_n (ls' := [(2, 88), (0, 0)]) 2 dX12_readLaw_1 (by decide) rfl rfl ?_
  with_reducible exact w
theorem B_X12_readLaw_2 {g : PG} {d : Nat} {σ : PS} {Q : Int → PS → Prop} {x1 : Int}  (w : ((σ 88 31 = 0 → XX g true d P_X12_isWord 0 [(2, 88), (0, 1)] [] 136 σ 136 (fun r2 σ1 => ((r2 = 0 → ((σ1 88 22 ≠ 0 → XX g true d P_X12_errs 0 [(2, 88), (0, 1)] [] 136 σ1 136 (fun r4 σ3 => Q r4 σ3)) ∧ (σ1 88 22 = 0 → Q x1 σ1))) ∧ (r2 ≠ 0 → ((x1 ≠ 16 → XX g true d P_X12_readLine 0 [(2, 88), (0, w32 (48 + x1))] [] 136 σ1 136 (fun r6 σ5 => ((r6 ≠ (-1) → ∀ y7, y7 = w32 (x1 + 1) → (XX g true (d + 1) P_X12_readLaw 2 [(2, 88), (0, y7)] [] 136 σ5 136 Q)) ∧ (r6 = (-1) → Q (-1) σ5)))) ∧ (x1 = 16 → XX g true d P_X12_errs 0 [(2, 88), (0, 3)] [] 136 σ1 136 (fun r9 σ8 => Q r9 σ8))))))) ∧ (σ 88 31 ≠ 0 → XX g true d P_X12_isWord 0 [(2, 88), (0, 0)] [] 136 σ 136 (fun r11 σ10 => ((r11 = 0 → ((σ10 88 22 ≠ 0 → XX g true d P_X12_errs 0 [(2, 88), (0, 1)] [] 136 σ10 136 (fun r13 σ12 => Q r13 σ12)) ∧ (σ10 88 22 = 0 → Q x1 σ10))) ∧ (r11 ≠ 0 → ((x1 ≠ 16 → XX g true d P_X12_readLine 0 [(2, 88), (0, w32 (48 + x1))] [] 136 σ10 136 (fun r15 σ14 => ((r15 ≠ (-1) → ∀ y16, y16 = w32 (x1 + 1) → (XX g true (d + 1) P_X12_readLaw 2 [(2, 88), (0, y16)] [] 136 σ14 136 Q)) ∧ (r15 = (-1) → Q (-1) σ14)))) ∧ (x1 = 16 → XX g true d P_X12_errs 0 [(2, 88), (0, 3)] [] 136 σ10 136 (fun r18 σ17 => Q r18 σ17))))))))) : XX g true (d + 1) P_X12_readLaw 2 [(2, 88), (0, x1)] [] 136 σ 136 Q := by
  refine E_aload_n 3 dX12_readLaw_2 rfl (ac_88.bnd) rfl ?_
  refine E_aload_n 4 dX12_readLaw_3 rfl (ac_88.bnd) rfl ?_
  refine E_get 31 7 dX12_readLaw_4 fl_X12_236 ac_88 rfl (by decide) rfl rfl ?_
  refine E_if_eq 10 14 dX12_readLaw_7 rfl rfl (fun h => ?_) (fun h => ?_)
  · have w := w.1 h
    refine E_iconst 15 dX12_readLaw_14 (by decide) rfl ?_
    refine E_callV (as := [(0, 1)]) 18 dX12_readLaw_15 cf_X12_isWord mw_1451 mw_1453 mw_55 ac_88 (by decide) cl_X12 rfl rfl (Nat.le_of_ble_eq_true rfl) (Nat.le_of_ble_eq_true rfl) ⟨Nat.le_refl _, Nat.le_refl _⟩ rfl (w.mono (fun r2 σ1 w => ?_))
    show XX g true (d + 1) P_X12_readLaw 18 [(2, 88), (0, x1)] [(0, r2)] 136 σ1 136 Q
    refine E_if_eq 21 54 dX12_readLaw_18 rfl rfl (fun h => ?_) (fun h => ?_)
    · have w := w.1 h
      refine E_aload_n 55 dX12_readLaw_54 rfl (ac_88.bnd) rfl ?_
      refine E_get 22 58 dX12_readLaw_55 fl_X12_208 ac_88 rfl (by decide) rfl rfl ?_
      refine E_if_ne 61 65 dX12_readLaw_58 rfl rfl (fun h => ?_) (fun h => ?_)
      · have w := w.1 h
        refine E_aload_n 66 dX12_readLaw_65 rfl (ac_88.bnd) rfl ?_
        refine E_iconst 67 dX12_readLaw_66 (by decide) rfl ?_
        refine E_callV (as := [(0, 1)]) 70 dX12_readLaw_67 cf_X12_errs mw_1435 mw_1437 mw_51 ac_88 (by decide) cl_X12 rfl rfl (Nat.le_of_ble_eq_true rfl) (Nat.le_of_ble_eq_true rfl) ⟨Nat.le_refl _, Nat.le_refl _⟩ rfl (w.mono (fun r4 σ3 w => ?_))
        show XX g true (d + 1) P_X12_readLaw 70 [(2, 88), (0, x1)] [(0, r4)] 136 σ3 136 Q
        exact E_iret dX12_readLaw_70 rfl rfl w
      · have w := w.2 h
        refine E_iload_n 62 dX12_readLaw_61 rfl rfl ?_
        refine E_goto 70 dX12_readLaw_62 rfl ?_
        exact E_iret dX12_readLaw_70 rfl rfl w
    · have w := w.2 h
      refine E_iload_n 22 dX12_readLaw_21 rfl rfl ?_
      refine E_bipush 24 dX12_readLaw_22 (by decide) rfl ?_
      refine E_icmp_ne 27 33 dX12_readLaw_24 rfl rfl (fun h => ?_) (fun h => ?_)
      · have w := w.1 h
        refine E_aload_n 34 dX12_readLaw_33 rfl (ac_88.bnd) rfl ?_
        refine E_bipush 36 dX12_readLaw_34 (by decide) rfl ?_
        refine E_iload_n 37 dX12_readLaw_36 rfl rfl ?_
        refine E_iadd 38 dX12_readLaw_37 rfl ?_
        refine E_callV (as := [(0, w32 (48 + x1))]) 41 dX12_readLaw_38 cf_X12_readLine mw_1463 mw_1465 mw_58 ac_88 (by decide) cl_X12 rfl rfl (Nat.le_of_ble_eq_true rfl) (Nat.le_of_ble_eq_true rfl) ⟨Nat.le_refl _, Nat.le_refl _⟩ rfl (w.mono (fun r6 σ5 w => ?_))
        show XX g true (d + 1) P_X12_readLaw 41 [(2, 88), (0, x1)] [(0, r6)] 136 σ5 136 Q
        refine E_iconst 42 dX12_readLaw_41 (by decide) rfl ?_
        refine E_icmp_ne 45 47 dX12_readLaw_42 rfl rfl (fun h => ?_) (fun h => ?_)
        · have w := w.1 h
          refine E_iload_n 48 dX12_readLaw_47 rfl rfl ?_
          refine E_iconst 49 dX12_readLaw_48 (by decide) rfl ?_
          refine E_iadd 50 dX12_readLaw_49 rfl ?_
          refine E_top (fun y7 hy7 => ?_)
          have w := w y7 hy7
          refine E_istore_n (ls' := [(2, 88), (0, y7)]) 51 dX12_readLaw_50 (by decide) rfl rfl ?_
          refine E_goto 2 dX12_readLaw_51 rfl ?_
          with_reducible exact w
        · have w := w.2 h
          refine E_iconst 46 dX12_readLaw_45 (by decide) rfl ?_
          exact E_iret dX12_readLaw_46 rfl rfl w
      · have w := w.2 h
        refine E_aload_n 28 dX12_readLaw_27 rfl (ac_88.bnd) rfl ?_
        refine E_iconst 29 dX12_readLaw_28 (by decide) rfl ?_
        refine E_callV (as := [(0, 3)]) 32 dX12_readLaw_29 cf_X12_errs mw_1435 mw_1437 mw_51 ac_88 (by decide) cl_X12 rfl rfl (Nat.le_of_ble_eq_true rfl) (Nat.le_of_ble_eq_true rfl) ⟨Nat.le_refl _, Nat.le_refl _⟩ rfl (w.mono (fun r9 σ8 w => ?_))
        show XX g true (d + 1) P_X12_readLaw 32 [(2, 88), (0, x1)] [(0, r9)] 136 σ8 136 Q
        exact E_iret dX12_readLaw_32 rfl rfl w
  · have w := w.2 h
    refine E_iconst 11 dX12_readLaw_10 (by decide) rfl ?_
    refine E_goto 15 dX12_readLaw_11 rfl ?_
    refine E_callV (as := [(0, 0)]) 18 dX12_readLaw_15 cf_X12_isWord mw_1451 mw_1453 mw_55 ac_88 (by decide) cl_X12 rfl rfl (Nat.le_of_ble_eq_true rfl) (Nat.le_of_ble_eq_true rfl) ⟨Nat.le_refl _, Nat.le_refl _⟩ rfl (w.mono (fun r11 σ10 w => ?_))
    show XX g true (d + 1) P_X12_readLaw 18 [(2, 88), (0, x1)] [(0, r11)] 136 σ10 136 Q
    refine E_if_eq 21 54 dX12_readLaw_18 rfl rfl (fun h => ?_) (fun h => ?_)
    · have w := w.1 h
      refine E_aload_n 55 dX12_readLaw_54 rfl (ac_88.bnd) rfl ?_
      refine E_get 22 58 dX12_readLaw_55 fl_X12_208 ac_88 rfl (by decide) rfl rfl ?_
      refine E_if_ne 61 65 dX12_readLaw_58 rfl rfl (fun h => ?_) (fun h => ?_)
      · have w := w.1 h
        refine E_aload_n 66 dX12_readLaw_65 rfl (ac_88.bnd) rfl ?_
        refine E_iconst 67 dX12_readLaw_66 (by decide) rfl ?_
        refine E_callV (as := [(0, 1)]) 70 dX12_readLaw_67 cf_X12_errs mw_1435 mw_1437 mw_51 ac_88 (by decide) cl_X12 rfl rfl (Nat.le_of_ble_eq_true rfl) (Nat.le_of_ble_eq_true rfl) ⟨Nat.le_refl _, Nat.le_refl _⟩ rfl (w.mono (fun r13 σ12 w => ?_))
        show XX g true (d + 1) P_X12_readLaw 70 [(2, 88), (0, x1)] [(0, r13)] 136 σ12 136 Q
        exact E_iret dX12_readLaw_70 rfl rfl w
      · have w := w.2 h
        refine E_iload_n 62 dX12_readLaw_61 rfl rfl ?_
        refine E_goto 70 dX12_readLaw_62 rfl ?_
        exact E_iret dX12_readLaw_70 rfl rfl w
    · have w := w.2 h
      refine E_iload_n 22 dX12_readLaw_21 rfl rfl ?_
      refine E_bipush 24 dX12_readLaw_22 (by decide) rfl ?_
      refine E_icmp_ne 27 33 dX12_readLaw_24 rfl rfl (fun h => ?_) (fun h => ?_)
      · have w := w.1 h
        refine E_aload_n 34 dX12_readLaw_33 rfl (ac_88.bnd) rfl ?_
        refine E_bipush 36 dX12_readLaw_34 (by decide) rfl ?_
        refine E_iload_n 37 dX12_readLaw_36 rfl rfl ?_
        refine E_iadd 38 dX12_readLaw_37 rfl ?_
        refine E_callV (as := [(0, w32 (48 + x1))]) 41 dX12_readLaw_38 cf_X12_readLine mw_1463 mw_1465 mw_58 ac_88 (by decide) cl_X12 rfl rfl (Nat.le_of_ble_eq_true rfl) (Nat.le_of_ble_eq_true rfl) ⟨Nat.le_refl _, Nat.le_refl _⟩ rfl (w.mono (fun r15 σ14 w => ?_))
        show XX g true (d + 1) P_X12_readLaw 41 [(2, 88), (0, x1)] [(0, r15)] 136 σ14 136 Q
        refine E_iconst 42 dX12_readLaw_41 (by decide) rfl ?_
        refine E_icmp_ne 45 47 dX12_readLaw_42 rfl rfl (fun h => ?_) (fun h => ?_)
        · have w := w.1 h
          refine E_iload_n 48 dX12_readLaw_47 rfl rfl ?_
          refine E_iconst 49 dX12_readLaw_48 (by decide) rfl ?_
          refine E_iadd 50 dX12_readLaw_49 rfl ?_
          refine E_top (fun y16 hy16 => ?_)
          have w := w y16 hy16
          refine E_istore_n (ls' := [(2, 88), (0, y16)]) 51 dX12_readLaw_50 (by decide) rfl rfl ?_
          refine E_goto 2 dX12_readLaw_51 rfl ?_
          with_reducible exact w
        · have w := w.2 h
          refine E_iconst 46 dX12_readLaw_45 (by decide) rfl ?_
          exact E_iret dX12_readLaw_46 rfl rfl w
      · have w := w.2 h
        refine E_aload_n 28 dX12_readLaw_27 rfl (ac_88.bnd) rfl ?_
        refine E_iconst 29 dX12_readLaw_28 (by decide) rfl ?_
        refine E_callV (as := [(0, 3)]) 32 dX12_readLaw_29 cf_X12_errs mw_1435 mw_1437 mw_51 ac_88 (by decide) cl_X12 rfl rfl (Nat.le_of_ble_eq_true rfl) (Nat.le_of_ble_eq_true rfl) ⟨Nat.le_refl _, Nat.le_refl _⟩ rfl (w.mono (fun r18 σ17 w => ?_))
        show XX g true (d + 1) P_X12_readLaw 32 [(2, 88), (0, x1)] [(0, r18)] 136 σ17 136 Q
        exact E_iret dX12_readLaw_32 rfl rfl w
theorem B_X12_readNumber_0 {g : PG} {d : Nat} {σ : PS} {Q : Int → PS → Prop} {x1 : Int}  (w : ((σ 88 22 = 3 → XX g true d P_X12_isIn 0 [(2, 88), (0, σ 88 23), (0, x1), (0, 8)] [] 136 σ 136 (fun r2 σ1 => ((r2 ≠ 0 → ∀ y3, y3 = σ1 88 23 → XX g true d P_X12_reads 0 [(2, 88), (9, 0)] [] 136 σ1 136 (fun _ σ4 => Q y3 σ4)) ∧ (r2 = 0 → XX g true d P_X12_errs 0 [(2, 88), (0, 2)] [] 136 σ1 136 (fun r7 σ6 => Q r7 σ6))))) ∧ (σ 88 22 ≠ 3 → XX g true d P_X12_errs 0 [(2, 88), (0, 1)] [] 136 σ 136 (fun r9 σ8 => Q r9 σ8)))) : XX g true (d + 1) P_X12_readNumber 0 [(2, 88), (0, x1), (9, 0)] [] 136 σ 136 Q := by
  refine E_aload_n 1 dX12_readNumber_0 rfl (ac_88.bnd) rfl ?_
  refine E_get 22 4 dX12_readNumber_1 fl_X12_208 ac_88 rfl (by decide) rfl rfl ?_
  refine E_iconst 5 dX12_readNumber_4 (by decide) rfl ?_
  refine E_icmp_eq 8 14 dX12_readNumber_5 rfl rfl (fun h => ?_) (fun h => ?_)
  · have w := w.1 h
    refine E_aload_n 15 dX12_readNumber_14 rfl (ac_88.bnd) rfl ?_
    refine E_aload_n 16 dX12_readNumber_15 rfl (ac_88.bnd) rfl ?_
    refine E_get 23 19 dX12_readNumber_16 fl_X12_211 ac_88 rfl (by decide) rfl rfl ?_
    refine E_iload_n 20 dX12_readNumber_19 rfl rfl ?_
    refine E_bipush 22 dX12_readNumber_20 (by decide) rfl ?_
    refine E_callV (as := [(0, σ 88 23), (0, x1), (0, 8)]) 25 dX12_readNumber_22 cf_X12_isIn mw_1363 mw_1365 mw_39 ac_88 (by decide) cl_X12 rfl rfl (Nat.le_of_ble_eq_true rfl) (Nat.le_of_ble_eq_true rfl) ⟨Nat.le_refl _, Nat.le_refl _⟩ rfl (w.mono (fun r2 σ1 w => ?_))
    show XX g true (d + 1) P_X12_readNumber 25 [(2, 88), (0, x1), (9, 0)] [(0, r2)] 136 σ1 136 Q
    refine E_if_ne 28 34 dX12_readNumber_25 rfl rfl (fun h => ?_) (fun h => ?_)
    · have w := w.1 h
      refine E_aload_n 35 dX12_readNumber_34 rfl (ac_88.bnd) rfl ?_
      refine E_get 23 38 dX12_readNumber_35 fl_X12_211 ac_88 rfl (by decide) rfl rfl ?_
      refine E_top (fun y3 hy3 => ?_)
      have w := w y3 hy3
      refine E_istore_n (ls' := [(2, 88), (0, x1), (0, y3)]) 39 dX12_readNumber_38 (by decide) rfl rfl ?_
      refine E_aload_n 40 dX12_readNumber_39 rfl (ac_88.bnd) rfl ?_
      refine E_callV (as := []) 43 dX12_readNumber_40 cf_X12_reads mw_1407 mw_1409 mw_44 ac_88 (by decide) cl_X12 rfl rfl (Nat.le_of_ble_eq_true rfl) (Nat.le_of_ble_eq_true rfl) ⟨Nat.le_refl _, Nat.le_refl _⟩ rfl (w.mono (fun r5 σ4 w => ?_))
      show XX g true (d + 1) P_X12_readNumber 43 [(2, 88), (0, x1), (0, y3)] [] 136 σ4 136 Q
      refine E_iload_n 44 dX12_readNumber_43 rfl rfl ?_
      exact E_iret dX12_readNumber_44 rfl rfl w
    · have w := w.2 h
      refine E_aload_n 29 dX12_readNumber_28 rfl (ac_88.bnd) rfl ?_
      refine E_iconst 30 dX12_readNumber_29 (by decide) rfl ?_
      refine E_callV (as := [(0, 2)]) 33 dX12_readNumber_30 cf_X12_errs mw_1435 mw_1437 mw_51 ac_88 (by decide) cl_X12 rfl rfl (Nat.le_of_ble_eq_true rfl) (Nat.le_of_ble_eq_true rfl) ⟨Nat.le_refl _, Nat.le_refl _⟩ rfl (w.mono (fun r7 σ6 w => ?_))
      show XX g true (d + 1) P_X12_readNumber 33 [(2, 88), (0, x1), (9, 0)] [(0, r7)] 136 σ6 136 Q
      exact E_iret dX12_readNumber_33 rfl rfl w
  · have w := w.2 h
    refine E_aload_n 9 dX12_readNumber_8 rfl (ac_88.bnd) rfl ?_
    refine E_iconst 10 dX12_readNumber_9 (by decide) rfl ?_
    refine E_callV (as := [(0, 1)]) 13 dX12_readNumber_10 cf_X12_errs mw_1435 mw_1437 mw_51 ac_88 (by decide) cl_X12 rfl rfl (Nat.le_of_ble_eq_true rfl) (Nat.le_of_ble_eq_true rfl) ⟨Nat.le_refl _, Nat.le_refl _⟩ rfl (w.mono (fun r9 σ8 w => ?_))
    show XX g true (d + 1) P_X12_readNumber 13 [(2, 88), (0, x1), (9, 0)] [(0, r9)] 136 σ8 136 Q
    exact E_iret dX12_readNumber_13 rfl rfl w
theorem B_X12_readShape_0 {g : PG} {d : Nat} {σ : PS} {Q : Int → PS → Prop} {x1 : Int}  (w : (XX g true (d + 1) P_X12_readShape 2 [(2, 88), (0, x1), (0, 0)] [] 136 σ 136 Q)) : XX g true (d + 1) P_X12_readShape 0 [(2, 88), (0, x1), (9, 0)] [] 136 σ 136 Q := by
  refine E_iconst 1 dX12_readShape_0 (by decide) rfl ?_
  refine E_istore_n (ls' := [(2, 88), (0, x1), (0, 0)]) 2 dX12_readShape_1 (by decide) rfl rfl ?_
  with_reducible exact w
theorem B_X12_readShape_2 {g : PG} {d : Nat} {σ : PS} {Q : Int → PS → Prop} {x1 x2 : Int}  (w : ((σ 88 22 ≠ 2 → ((x2 ≠ 0 → Q x2 σ) ∧ (x2 = 0 → XX g true d P_X12_errs 0 [(2, 88), (0, 1)] [] 136 σ 136 (fun r2 σ1 => Q r2 σ1)))) ∧ (σ 88 22 = 2 → XX g true d P_X12_isIn 0 [(2, 88), (0, σ 88 23), (0, 6), (0, 8)] [] 136 σ 136 (fun r4 σ3 => ((r4 = 0 → ((x2 ≠ 0 → Q x2 σ3) ∧ (x2 = 0 → XX g true d P_X12_errs 0 [(2, 88), (0, 1)] [] 136 σ3 136 (fun r6 σ5 => Q r6 σ5)))) ∧ (r4 ≠ 0 → ((x2 ≠ 8 → (0 ≤ w32 ((w32 (8 * x1)) + x2) ∧ w32 ((w32 (8 * x1)) + x2) < 128) ∧ ∀ y8, y8 = w32 (x2 + 1) → XX g true d P_X12_reads 0 [(2, 88), (9, 0)] [] 136 (su σ3 110 (w32 ((w32 (8 * x1)) + x2)) (σ3 88 23)) 136 (fun _ σ9 => (XX g true (d + 1) P_X12_readShape 2 [(2, 88), (0, x1), (0, y8)] [] 136 σ9 136 Q))) ∧ (x2 = 8 → XX g true d P_X12_errs 0 [(2, 88), (0, 3)] [] 136 σ3 136 (fun r12 σ11 => Q r12 σ11))))))))) : XX g true (d + 1) P_X12_readShape 2 [(2, 88), (0, x1), (0, x2)] [] 136 σ 136 Q := by
  refine E_aload_n 3 dX12_readShape_2 rfl (ac_88.bnd) rfl ?_
  refine E_get 22 6 dX12_readShape_3 fl_X12_208 ac_88 rfl (by decide) rfl rfl ?_
  refine E_iconst 7 dX12_readShape_6 (by decide) rfl ?_
  refine E_icmp_ne 10 63 dX12_readShape_7 rfl rfl (fun h => ?_) (fun h => ?_)
  · have w := w.1 h
    refine E_iload_n 64 dX12_readShape_63 rfl rfl ?_
    refine E_if_ne 67 75 dX12_readShape_64 rfl rfl (fun h => ?_) (fun h => ?_)
    · have w := w.1 h
      refine E_iload_n 76 dX12_readShape_75 rfl rfl ?_
      exact E_iret dX12_readShape_76 rfl rfl w
    · have w := w.2 h
      refine E_aload_n 68 dX12_readShape_67 rfl (ac_88.bnd) rfl ?_
      refine E_iconst 69 dX12_readShape_68 (by decide) rfl ?_
      refine E_callV (as := [(0, 1)]) 72 dX12_readShape_69 cf_X12_errs mw_1435 mw_1437 mw_51 ac_88 (by decide) cl_X12 rfl rfl (Nat.le_of_ble_eq_true rfl) (Nat.le_of_ble_eq_true rfl) ⟨Nat.le_refl _, Nat.le_refl _⟩ rfl (w.mono (fun r2 σ1 w => ?_))
      show XX g true (d + 1) P_X12_readShape 72 [(2, 88), (0, x1), (0, x2)] [(0, r2)] 136 σ1 136 Q
      refine E_goto 76 dX12_readShape_72 rfl ?_
      exact E_iret dX12_readShape_76 rfl rfl w
  · have w := w.2 h
    refine E_aload_n 11 dX12_readShape_10 rfl (ac_88.bnd) rfl ?_
    refine E_aload_n 12 dX12_readShape_11 rfl (ac_88.bnd) rfl ?_
    refine E_get 23 15 dX12_readShape_12 fl_X12_211 ac_88 rfl (by decide) rfl rfl ?_
    refine E_bipush 17 dX12_readShape_15 (by decide) rfl ?_
    refine E_bipush 19 dX12_readShape_17 (by decide) rfl ?_
    refine E_callV (as := [(0, σ 88 23), (0, 6), (0, 8)]) 22 dX12_readShape_19 cf_X12_isIn mw_1363 mw_1365 mw_39 ac_88 (by decide) cl_X12 rfl rfl (Nat.le_of_ble_eq_true rfl) (Nat.le_of_ble_eq_true rfl) ⟨Nat.le_refl _, Nat.le_refl _⟩ rfl (w.mono (fun r4 σ3 w => ?_))
    show XX g true (d + 1) P_X12_readShape 22 [(2, 88), (0, x1), (0, x2)] [(0, r4)] 136 σ3 136 Q
    refine E_if_eq 25 63 dX12_readShape_22 rfl rfl (fun h => ?_) (fun h => ?_)
    · have w := w.1 h
      refine E_iload_n 64 dX12_readShape_63 rfl rfl ?_
      refine E_if_ne 67 75 dX12_readShape_64 rfl rfl (fun h => ?_) (fun h => ?_)
      · have w := w.1 h
        refine E_iload_n 76 dX12_readShape_75 rfl rfl ?_
        exact E_iret dX12_readShape_76 rfl rfl w
      · have w := w.2 h
        refine E_aload_n 68 dX12_readShape_67 rfl (ac_88.bnd) rfl ?_
        refine E_iconst 69 dX12_readShape_68 (by decide) rfl ?_
        refine E_callV (as := [(0, 1)]) 72 dX12_readShape_69 cf_X12_errs mw_1435 mw_1437 mw_51 ac_88 (by decide) cl_X12 rfl rfl (Nat.le_of_ble_eq_true rfl) (Nat.le_of_ble_eq_true rfl) ⟨Nat.le_refl _, Nat.le_refl _⟩ rfl (w.mono (fun r6 σ5 w => ?_))
        show XX g true (d + 1) P_X12_readShape 72 [(2, 88), (0, x1), (0, x2)] [(0, r6)] 136 σ5 136 Q
        refine E_goto 76 dX12_readShape_72 rfl ?_
        exact E_iret dX12_readShape_76 rfl rfl w
    · have w := w.2 h
      refine E_iload_n 26 dX12_readShape_25 rfl rfl ?_
      refine E_bipush 28 dX12_readShape_26 (by decide) rfl ?_
      refine E_icmp_ne 31 37 dX12_readShape_28 rfl rfl (fun h => ?_) (fun h => ?_)
      · have w := w.1 h
        refine E_aload_n 38 dX12_readShape_37 rfl (ac_88.bnd) rfl ?_
        refine E_getL 41 dX12_readShape_38 fl_X12_83 ac_88 rfl (by decide) lay_88_44 rfl ?_
        refine E_bipush 43 dX12_readShape_41 (by decide) rfl ?_
        refine E_iload_n 44 dX12_readShape_43 rfl rfl ?_
        refine E_imul 45 dX12_readShape_44 rfl ?_
        refine E_iload_n 46 dX12_readShape_45 rfl rfl ?_
        refine E_iadd 47 dX12_readShape_46 rfl ?_
        refine E_aload_n 48 dX12_readShape_47 rfl (ac_88.bnd) rfl ?_
        refine E_get 23 51 dX12_readShape_48 fl_X12_211 ac_88 rfl (by decide) rfl rfl ?_
        obtain ⟨c7, w⟩ := w
        refine E_iast 52 dX12_readShape_51 ac_110 c7 rfl ?_
        refine E_iload_n 53 dX12_readShape_52 rfl rfl ?_
        refine E_iconst 54 dX12_readShape_53 (by decide) rfl ?_
        refine E_iadd 55 dX12_readShape_54 rfl ?_
        refine E_top (fun y8 hy8 => ?_)
        have w := w y8 hy8
        refine E_istore_n (ls' := [(2, 88), (0, x1), (0, y8)]) 56 dX12_readShape_55 (by decide) rfl rfl ?_
        refine E_aload_n 57 dX12_readShape_56 rfl (ac_88.bnd) rfl ?_
        refine E_callV (as := []) 60 dX12_readShape_57 cf_X12_reads mw_1407 mw_1409 mw_44 ac_88 (by decide) cl_X12 rfl rfl (Nat.le_of_ble_eq_true rfl) (Nat.le_of_ble_eq_true rfl) ⟨Nat.le_refl _, Nat.le_refl _⟩ rfl (w.mono (fun r10 σ9 w => ?_))
        show XX g true (d + 1) P_X12_readShape 60 [(2, 88), (0, x1), (0, y8)] [] 136 σ9 136 Q
        refine E_goto 2 dX12_readShape_60 rfl ?_
        with_reducible exact w
      · have w := w.2 h
        refine E_aload_n 32 dX12_readShape_31 rfl (ac_88.bnd) rfl ?_
        refine E_iconst 33 dX12_readShape_32 (by decide) rfl ?_
        refine E_callV (as := [(0, 3)]) 36 dX12_readShape_33 cf_X12_errs mw_1435 mw_1437 mw_51 ac_88 (by decide) cl_X12 rfl rfl (Nat.le_of_ble_eq_true rfl) (Nat.le_of_ble_eq_true rfl) ⟨Nat.le_refl _, Nat.le_refl _⟩ rfl (w.mono (fun r12 σ11 w => ?_))
        show XX g true (d + 1) P_X12_readShape 36 [(2, 88), (0, x1), (0, x2)] [(0, r12)] 136 σ11 136 Q
        exact E_iret dX12_readShape_36 rfl rfl w
theorem B_X12_readFail_0 {g : PG} {d : Nat} {σ : PS} {Q : Int → PS → Prop} {x1 : Int}  (w : (0 ≤ x1 ∧ x1 < 16) ∧ XX g true d P_X12_reads 0 [(2, 88), (9, 0)] [] 136 (su σ 107 x1 (σ 88 23)) 136 (fun _ σ2 => ((σ2 107 x1 ≠ 5 → XX g true d P_X12_readNumber 0 [(2, 88), (0, 1), (9, 0)] [] 136 σ2 136 (fun r5 σ4 => ((r5 = (-1) → Q r5 (su σ4 108 x1 r5)) ∧ (r5 ≠ (-1) → ((σ4 107 x1 ≠ 2 → XX g true d P_X12_isWord 0 [(2, 88), (0, 4)] [] 136 (su σ4 108 x1 r5) 136 (fun r7 σ6 => ((r7 ≠ 0 → XX g true d P_X12_reads 0 [(2, 88), (9, 0)] [] 136 σ6 136 (fun _ σ8 => XX g true d P_X12_readNumber 0 [(2, 88), (0, σ8 108 x1), (9, 0)] [] 136 σ8 136 (fun r11 σ10 => Q r11 (su σ10 109 x1 r11)))) ∧ (r7 = 0 → XX g true d P_X12_errs 0 [(2, 88), (0, 1)] [] 136 σ6 136 (fun r13 σ12 => Q r13 σ12))))) ∧ (σ4 107 x1 = 2 → Q r5 (su σ4 108 x1 r5))))))) ∧ (σ2 107 x1 = 5 → XX g true d P_X12_readShape 0 [(2, 88), (0, x1), (9, 0)] [] 136 σ2 136 (fun r15 σ14 => Q r15 (su σ14 108 x1 r15)))))) : XX g true (d + 1) P_X12_readFail 0 [(2, 88), (0, x1)] [] 136 σ 136 Q := by
  refine E_aload_n 1 dX12_readFail_0 rfl (ac_88.bnd) rfl ?_
  refine E_getL 4 dX12_readFail_1 fl_X12_74 ac_88 rfl (by decide) lay_88_41 rfl ?_
  refine E_iload_n 5 dX12_readFail_4 rfl rfl ?_
  refine E_aload_n 6 dX12_readFail_5 rfl (ac_88.bnd) rfl ?_
  refine E_get 23 9 dX12_readFail_6 fl_X12_211 ac_88 rfl (by decide) rfl rfl ?_
  obtain ⟨c1, w⟩ := w
  refine E_iast 10 dX12_readFail_9 ac_107 c1 rfl ?_
  refine E_aload_n 11 dX12_readFail_10 rfl (ac_88.bnd) rfl ?_
  refine E_callV (as := []) 14 dX12_readFail_11 cf_X12_reads mw_1407 mw_1409 mw_44 ac_88 (by decide) cl_X12 rfl rfl (Nat.le_of_ble_eq_true rfl) (Nat.le_of_ble_eq_true rfl) ⟨Nat.le_refl _, Nat.le_refl _⟩ rfl (w.mono (fun r3 σ2 w => ?_))
  show XX g true (d + 1) P_X12_readFail 14 [(2, 88), (0, x1)] [] 136 σ2 136 Q
  refine E_aload_n 15 dX12_readFail_14 rfl (ac_88.bnd) rfl ?_
  refine E_getL 18 dX12_readFail_15 fl_X12_74 ac_88 rfl (by decide) lay_88_41 rfl ?_
  refine E_iload_n 19 dX12_readFail_18 rfl rfl ?_
  refine E_iald 20 dX12_readFail_19 ac_107 c1 rfl ?_
  refine E_iconst 21 dX12_readFail_20 (by decide) rfl ?_
  refine E_icmp_ne 24 42 dX12_readFail_21 rfl rfl (fun h => ?_) (fun h => ?_)
  · have w := w.1 h
    refine E_aload_n 43 dX12_readFail_42 rfl (ac_88.bnd) rfl ?_
    refine E_getL 46 dX12_readFail_43 fl_X12_77 ac_88 rfl (by decide) lay_88_42 rfl ?_
    refine E_iload_n 47 dX12_readFail_46 rfl rfl ?_
    refine E_aload_n 48 dX12_readFail_47 rfl (ac_88.bnd) rfl ?_
    refine E_iconst 49 dX12_readFail_48 (by decide) rfl ?_
    refine E_callV (as := [(0, 1)]) 52 dX12_readFail_49 cf_X12_readNumber mw_1447 mw_1449 mw_54 ac_88 (by decide) cl_X12 rfl rfl (Nat.le_of_ble_eq_true rfl) (Nat.le_of_ble_eq_true rfl) ⟨Nat.le_refl _, Nat.le_refl _⟩ rfl (w.mono (fun r5 σ4 w => ?_))
    show XX g true (d + 1) P_X12_readFail 52 [(2, 88), (0, x1)] [(0, r5), (0, x1), (2, 108)] 136 σ4 136 Q
    refine E_iast 53 dX12_readFail_52 ac_108 c1 rfl ?_
    refine E_aload_n 54 dX12_readFail_53 rfl (ac_88.bnd) rfl ?_
    refine E_getL 57 dX12_readFail_54 fl_X12_77 ac_88 rfl (by decide) lay_88_42 rfl ?_
    refine E_iload_n 58 dX12_readFail_57 rfl rfl ?_
    refine E_iald 59 dX12_readFail_58 ac_108 c1 rfl ?_
    refine E_conv (su_eq) ?_
    refine E_iconst 60 dX12_readFail_59 (by decide) rfl ?_
    refine E_icmp_eq 63 73 dX12_readFail_60 rfl rfl (fun h => ?_) (fun h => ?_)
    · have w := w.1 h
      refine E_aload_n 74 dX12_readFail_73 rfl (ac_88.bnd) rfl ?_
      refine E_getL 77 dX12_readFail_74 fl_X12_77 ac_88 rfl (by decide) lay_88_42 rfl ?_
      refine E_iload_n 78 dX12_readFail_77 rfl rfl ?_
      refine E_iald 79 dX12_readFail_78 ac_108 c1 rfl ?_
      refine E_conv (su_eq) ?_
      exact E_iret dX12_readFail_79 rfl rfl w
    · have w := w.2 h
      refine E_aload_n 64 dX12_readFail_63 rfl (ac_88.bnd) rfl ?_
      refine E_getL 67 dX12_readFail_64 fl_X12_74 ac_88 rfl (by decide) lay_88_41 rfl ?_
      refine E_iload_n 68 dX12_readFail_67 rfl rfl ?_
      refine E_iald 69 dX12_readFail_68 ac_107 c1 rfl ?_
      refine E_conv (su_ne (Or.inl (by decide))) ?_
      refine E_iconst 70 dX12_readFail_69 (by decide) rfl ?_
      refine E_icmp_ne 73 80 dX12_readFail_70 rfl rfl (fun h => ?_) (fun h => ?_)
      · have w := w.1 h
        refine E_aload_n 81 dX12_readFail_80 rfl (ac_88.bnd) rfl ?_
        refine E_iconst 82 dX12_readFail_81 (by decide) rfl ?_
        refine E_callV (as := [(0, 4)]) 85 dX12_readFail_82 cf_X12_isWord mw_1451 mw_1453 mw_55 ac_88 (by decide) cl_X12 rfl rfl (Nat.le_of_ble_eq_true rfl) (Nat.le_of_ble_eq_true rfl) ⟨Nat.le_refl _, Nat.le_refl _⟩ rfl (w.mono (fun r7 σ6 w => ?_))
        show XX g true (d + 1) P_X12_readFail 85 [(2, 88), (0, x1)] [(0, r7)] 136 σ6 136 Q
        refine E_if_ne 88 94 dX12_readFail_85 rfl rfl (fun h => ?_) (fun h => ?_)
        · have w := w.1 h
          refine E_aload_n 95 dX12_readFail_94 rfl (ac_88.bnd) rfl ?_
          refine E_callV (as := []) 98 dX12_readFail_95 cf_X12_reads mw_1407 mw_1409 mw_44 ac_88 (by decide) cl_X12 rfl rfl (Nat.le_of_ble_eq_true rfl) (Nat.le_of_ble_eq_true rfl) ⟨Nat.le_refl _, Nat.le_refl _⟩ rfl (w.mono (fun r9 σ8 w => ?_))
          show XX g true (d + 1) P_X12_readFail 98 [(2, 88), (0, x1)] [] 136 σ8 136 Q
          refine E_aload_n 99 dX12_readFail_98 rfl (ac_88.bnd) rfl ?_
          refine E_getL 102 dX12_readFail_99 fl_X12_80 ac_88 rfl (by decide) lay_88_43 rfl ?_
          refine E_iload_n 103 dX12_readFail_102 rfl rfl ?_
          refine E_aload_n 104 dX12_readFail_103 rfl (ac_88.bnd) rfl ?_
          refine E_aload_n 105 dX12_readFail_104 rfl (ac_88.bnd) rfl ?_
          refine E_getL 108 dX12_readFail_105 fl_X12_77 ac_88 rfl (by decide) lay_88_42 rfl ?_
          refine E_iload_n 109 dX12_readFail_108 rfl rfl ?_
          refine E_iald 110 dX12_readFail_109 ac_108 c1 rfl ?_
          refine E_callV (as := [(0, σ8 108 x1)]) 113 dX12_readFail_110 cf_X12_readNumber mw_1447 mw_1449 mw_54 ac_88 (by decide) cl_X12 rfl rfl (Nat.le_of_ble_eq_true rfl) (Nat.le_of_ble_eq_true rfl) ⟨Nat.le_refl _, Nat.le_refl _⟩ rfl (w.mono (fun r11 σ10 w => ?_))
          show XX g true (d + 1) P_X12_readFail 113 [(2, 88), (0, x1)] [(0, r11), (0, x1), (2, 109)] 136 σ10 136 Q
          refine E_iast 114 dX12_readFail_113 ac_109 c1 rfl ?_
          refine E_aload_n 115 dX12_readFail_114 rfl (ac_88.bnd) rfl ?_
          refine E_getL 118 dX12_readFail_115 fl_X12_80 ac_88 rfl (by decide) lay_88_43 rfl ?_
          refine E_iload_n 119 dX12_readFail_118 rfl rfl ?_
          refine E_iald 120 dX12_readFail_119 ac_109 c1 rfl ?_
          refine E_conv (su_eq) ?_
          exact E_iret dX12_readFail_120 rfl rfl w
        · have w := w.2 h
          refine E_aload_n 89 dX12_readFail_88 rfl (ac_88.bnd) rfl ?_
          refine E_iconst 90 dX12_readFail_89 (by decide) rfl ?_
          refine E_callV (as := [(0, 1)]) 93 dX12_readFail_90 cf_X12_errs mw_1435 mw_1437 mw_51 ac_88 (by decide) cl_X12 rfl rfl (Nat.le_of_ble_eq_true rfl) (Nat.le_of_ble_eq_true rfl) ⟨Nat.le_refl _, Nat.le_refl _⟩ rfl (w.mono (fun r13 σ12 w => ?_))
          show XX g true (d + 1) P_X12_readFail 93 [(2, 88), (0, x1)] [(0, r13)] 136 σ12 136 Q
          exact E_iret dX12_readFail_93 rfl rfl w
      · have w := w.2 h
        refine E_aload_n 74 dX12_readFail_73 rfl (ac_88.bnd) rfl ?_
        refine E_getL 77 dX12_readFail_74 fl_X12_77 ac_88 rfl (by decide) lay_88_42 rfl ?_
        refine E_iload_n 78 dX12_readFail_77 rfl rfl ?_
        refine E_iald 79 dX12_readFail_78 ac_108 c1 rfl ?_
        refine E_conv (su_eq) ?_
        exact E_iret dX12_readFail_79 rfl rfl w
  · have w := w.2 h
    refine E_aload_n 25 dX12_readFail_24 rfl (ac_88.bnd) rfl ?_
    refine E_getL 28 dX12_readFail_25 fl_X12_77 ac_88 rfl (by decide) lay_88_42 rfl ?_
    refine E_iload_n 29 dX12_readFail_28 rfl rfl ?_
    refine E_aload_n 30 dX12_readFail_29 rfl (ac_88.bnd) rfl ?_
    refine E_iload_n 31 dX12_readFail_30 rfl rfl ?_
    refine E_callV (as := [(0, x1)]) 34 dX12_readFail_31 cf_X12_readShape mw_1443 mw_1445 mw_53 ac_88 (by decide) cl_X12 rfl rfl (Nat.le_of_ble_eq_true rfl) (Nat.le_of_ble_eq_true rfl) ⟨Nat.le_refl _, Nat.le_refl _⟩ rfl (w.mono (fun r15 σ14 w => ?_))
    show XX g true (d + 1) P_X12_readFail 34 [(2, 88), (0, x1)] [(0, r15), (0, x1), (2, 108)] 136 σ14 136 Q
    refine E_iast 35 dX12_readFail_34 ac_108 c1 rfl ?_
    refine E_aload_n 36 dX12_readFail_35 rfl (ac_88.bnd) rfl ?_
    refine E_getL 39 dX12_readFail_36 fl_X12_77 ac_88 rfl (by decide) lay_88_42 rfl ?_
    refine E_iload_n 40 dX12_readFail_39 rfl rfl ?_
    refine E_iald 41 dX12_readFail_40 ac_108 c1 rfl ?_
    refine E_conv (su_eq) ?_
    exact E_iret dX12_readFail_41 rfl rfl w
theorem B_X12_readFails_0 {g : PG} {d : Nat} {σ : PS} {Q : Int → PS → Prop}  (w : (XX g true (d + 1) P_X12_readFails 2 [(2, 88), (0, 0)] [] 136 σ 136 Q)) : XX g true (d + 1) P_X12_readFails 0 [(2, 88), (9, 0)] [] 136 σ 136 Q := by
  refine E_iconst 1 dX12_readFails_0 (by decide) rfl ?_
  refine E_istore_n (ls' := [(2, 88), (0, 0)]) 2 dX12_readFails_1 (by decide) rfl rfl ?_
  with_reducible exact w
theorem B_X12_readFails_2 {g : PG} {d : Nat} {σ : PS} {Q : Int → PS → Prop} {x1 : Int}  (w : ((σ 88 22 ≠ 2 → ((σ 88 22 ≠ 0 → XX g true d P_X12_errs 0 [(2, 88), (0, 1)] [] 136 σ 136 (fun r2 σ1 => Q r2 σ1)) ∧ (σ 88 22 = 0 → Q x1 σ))) ∧ (σ 88 22 = 2 → ((σ 88 23 = 2 → ((x1 ≠ 8 → XX g true d P_X12_readFail 0 [(2, 88), (0, w32 (8 + x1))] [] 136 σ 136 (fun r4 σ3 => ((r4 ≠ (-1) → XX g true d P_X12_isSign 0 [(2, 88), (0, 59)] [] 136 σ3 136 (fun r6 σ5 => ((r6 ≠ 0 → XX g true d P_X12_reads 0 [(2, 88), (9, 0)] [] 136 σ5 136 (fun _ σ7 => ∀ y9, y9 = w32 (x1 + 1) → (XX g true (d + 1) P_X12_readFails 2 [(2, 88), (0, y9)] [] 136 σ7 136 Q))) ∧ (r6 = 0 → XX g true d P_X12_errs 0 [(2, 88), (0, 1)] [] 136 σ5 136 (fun r11 σ10 => Q r11 σ10))))) ∧ (r4 = (-1) → Q (-1) σ3)))) ∧ (x1 = 8 → XX g true d P_X12_errs 0 [(2, 88), (0, 3)] [] 136 σ 136 (fun r13 σ12 => Q r13 σ12)))) ∧ (σ 88 23 ≠ 2 → ((σ 88 23 = 3 → ((x1 ≠ 8 → XX g true d P_X12_readFail 0 [(2, 88), (0, w32 (8 + x1))] [] 136 σ 136 (fun r15 σ14 => ((r15 ≠ (-1) → XX g true d P_X12_isSign 0 [(2, 88), (0, 59)] [] 136 σ14 136 (fun r17 σ16 => ((r17 ≠ 0 → XX g true d P_X12_reads 0 [(2, 88), (9, 0)] [] 136 σ16 136 (fun _ σ18 => ∀ y20, y20 = w32 (x1 + 1) → (XX g true (d + 1) P_X12_readFails 2 [(2, 88), (0, y20)] [] 136 σ18 136 Q))) ∧ (r17 = 0 → XX g true d P_X12_errs 0 [(2, 88), (0, 1)] [] 136 σ16 136 (fun r22 σ21 => Q r22 σ21))))) ∧ (r15 = (-1) → Q (-1) σ14)))) ∧ (x1 = 8 → XX g true d P_X12_errs 0 [(2, 88), (0, 3)] [] 136 σ 136 (fun r24 σ23 => Q r24 σ23)))) ∧ (σ 88 23 ≠ 3 → ((σ 88 23 ≠ 5 → ((σ 88 22 ≠ 0 → XX g true d P_X12_errs 0 [(2, 88), (0, 1)] [] 136 σ 136 (fun r26 σ25 => Q r26 σ25)) ∧ (σ 88 22 = 0 → Q x1 σ))) ∧ (σ 88 23 = 5 → ((x1 ≠ 8 → XX g true d P_X12_readFail 0 [(2, 88), (0, w32 (8 + x1))] [] 136 σ 136 (fun r28 σ27 => ((r28 ≠ (-1) → XX g true d P_X12_isSign 0 [(2, 88), (0, 59)] [] 136 σ27 136 (fun r30 σ29 => ((r30 ≠ 0 → XX g true d P_X12_reads 0 [(2, 88), (9, 0)] [] 136 σ29 136 (fun _ σ31 => ∀ y33, y33 = w32 (x1 + 1) → (XX g true (d + 1) P_X12_readFails 2 [(2, 88), (0, y33)] [] 136 σ31 136 Q))) ∧ (r30 = 0 → XX g true d P_X12_errs 0 [(2, 88), (0, 1)] [] 136 σ29 136 (fun r35 σ34 => Q r35 σ34))))) ∧ (r28 = (-1) → Q (-1) σ27)))) ∧ (x1 = 8 → XX g true d P_X12_errs 0 [(2, 88), (0, 3)] [] 136 σ 136 (fun r37 σ36 => Q r37 σ36)))))))))))) : XX g true (d + 1) P_X12_readFails 2 [(2, 88), (0, x1)] [] 136 σ 136 Q := by
  refine E_aload_n 3 dX12_readFails_2 rfl (ac_88.bnd) rfl ?_
  refine E_get 22 6 dX12_readFails_3 fl_X12_208 ac_88 rfl (by decide) rfl rfl ?_
  refine E_iconst 7 dX12_readFails_6 (by decide) rfl ?_
  refine E_icmp_ne 10 86 dX12_readFails_7 rfl rfl (fun h => ?_) (fun h => ?_)
  · have w := w.1 h
    refine E_aload_n 87 dX12_readFails_86 rfl (ac_88.bnd) rfl ?_
    refine E_get 22 90 dX12_readFails_87 fl_X12_208 ac_88 rfl (by decide) rfl rfl ?_
    refine E_if_ne 93 97 dX12_readFails_90 rfl rfl (fun h => ?_) (fun h => ?_)
    · have w := w.1 h
      refine E_aload_n 98 dX12_readFails_97 rfl (ac_88.bnd) rfl ?_
      refine E_iconst 99 dX12_readFails_98 (by decide) rfl ?_
      refine E_callV (as := [(0, 1)]) 102 dX12_readFails_99 cf_X12_errs mw_1435 mw_1437 mw_51 ac_88 (by decide) cl_X12 rfl rfl (Nat.le_of_ble_eq_true rfl) (Nat.le_of_ble_eq_true rfl) ⟨Nat.le_refl _, Nat.le_refl _⟩ rfl (w.mono (fun r2 σ1 w => ?_))
      show XX g true (d + 1) P_X12_readFails 102 [(2, 88), (0, x1)] [(0, r2)] 136 σ1 136 Q
      exact E_iret dX12_readFails_102 rfl rfl w
    · have w := w.2 h
      refine E_iload_n 94 dX12_readFails_93 rfl rfl ?_
      refine E_goto 102 dX12_readFails_94 rfl ?_
      exact E_iret dX12_readFails_102 rfl rfl w
  · have w := w.2 h
    refine E_aload_n 11 dX12_readFails_10 rfl (ac_88.bnd) rfl ?_
    refine E_get 23 14 dX12_readFails_11 fl_X12_211 ac_88 rfl (by decide) rfl rfl ?_
    refine E_iconst 15 dX12_readFails_14 (by decide) rfl ?_
    refine E_icmp_eq 18 34 dX12_readFails_15 rfl rfl (fun h => ?_) (fun h => ?_)
    · have w := w.1 h
      refine E_iload_n 35 dX12_readFails_34 rfl rfl ?_
      refine E_bipush 37 dX12_readFails_35 (by decide) rfl ?_
      refine E_icmp_ne 40 46 dX12_readFails_37 rfl rfl (fun h => ?_) (fun h => ?_)
      · have w := w.1 h
        refine E_aload_n 47 dX12_readFails_46 rfl (ac_88.bnd) rfl ?_
        refine E_bipush 49 dX12_readFails_47 (by decide) rfl ?_
        refine E_iload_n 50 dX12_readFails_49 rfl rfl ?_
        refine E_iadd 51 dX12_readFails_50 rfl ?_
        refine E_callV (as := [(0, w32 (8 + x1))]) 54 dX12_readFails_51 cf_X12_readFail mw_1439 mw_1441 mw_52 ac_88 (by decide) cl_X12 rfl rfl (Nat.le_of_ble_eq_true rfl) (Nat.le_of_ble_eq_true rfl) ⟨Nat.le_refl _, Nat.le_refl _⟩ rfl (w.mono (fun r4 σ3 w => ?_))
        show XX g true (d + 1) P_X12_readFails 54 [(2, 88), (0, x1)] [(0, r4)] 136 σ3 136 Q
        refine E_iconst 55 dX12_readFails_54 (by decide) rfl ?_
        refine E_icmp_ne 58 60 dX12_readFails_55 rfl rfl (fun h => ?_) (fun h => ?_)
        · have w := w.1 h
          refine E_aload_n 61 dX12_readFails_60 rfl (ac_88.bnd) rfl ?_
          refine E_bipush 63 dX12_readFails_61 (by decide) rfl ?_
          refine E_callV (as := [(0, 59)]) 66 dX12_readFails_63 cf_X12_isSign mw_1455 mw_1457 mw_56 ac_88 (by decide) cl_X12 rfl rfl (Nat.le_of_ble_eq_true rfl) (Nat.le_of_ble_eq_true rfl) ⟨Nat.le_refl _, Nat.le_refl _⟩ rfl (w.mono (fun r6 σ5 w => ?_))
          show XX g true (d + 1) P_X12_readFails 66 [(2, 88), (0, x1)] [(0, r6)] 136 σ5 136 Q
          refine E_if_ne 69 75 dX12_readFails_66 rfl rfl (fun h => ?_) (fun h => ?_)
          · have w := w.1 h
            refine E_aload_n 76 dX12_readFails_75 rfl (ac_88.bnd) rfl ?_
            refine E_callV (as := []) 79 dX12_readFails_76 cf_X12_reads mw_1407 mw_1409 mw_44 ac_88 (by decide) cl_X12 rfl rfl (Nat.le_of_ble_eq_true rfl) (Nat.le_of_ble_eq_true rfl) ⟨Nat.le_refl _, Nat.le_refl _⟩ rfl (w.mono (fun r8 σ7 w => ?_))
            show XX g true (d + 1) P_X12_readFails 79 [(2, 88), (0, x1)] [] 136 σ7 136 Q
            refine E_iload_n 80 dX12_readFails_79 rfl rfl ?_
            refine E_iconst 81 dX12_readFails_80 (by decide) rfl ?_
            refine E_iadd 82 dX12_readFails_81 rfl ?_
            refine E_top (fun y9 hy9 => ?_)
            have w := w y9 hy9
            refine E_istore_n (ls' := [(2, 88), (0, y9)]) 83 dX12_readFails_82 (by decide) rfl rfl ?_
            refine E_goto 2 dX12_readFails_83 rfl ?_
            with_reducible exact w
          · have w := w.2 h
            refine E_aload_n 70 dX12_readFails_69 rfl (ac_88.bnd) rfl ?_
            refine E_iconst 71 dX12_readFails_70 (by decide) rfl ?_
            refine E_callV (as := [(0, 1)]) 74 dX12_readFails_71 cf_X12_errs mw_1435 mw_1437 mw_51 ac_88 (by decide) cl_X12 rfl rfl (Nat.le_of_ble_eq_true rfl) (Nat.le_of_ble_eq_true rfl) ⟨Nat.le_refl _, Nat.le_refl _⟩ rfl (w.mono (fun r11 σ10 w => ?_))
            show XX g true (d + 1) P_X12_readFails 74 [(2, 88), (0, x1)] [(0, r11)] 136 σ10 136 Q
            exact E_iret dX12_readFails_74 rfl rfl w
        · have w := w.2 h
          refine E_iconst 59 dX12_readFails_58 (by decide) rfl ?_
          exact E_iret dX12_readFails_59 rfl rfl w
      · have w := w.2 h
        refine E_aload_n 41 dX12_readFails_40 rfl (ac_88.bnd) rfl ?_
        refine E_iconst 42 dX12_readFails_41 (by decide) rfl ?_
        refine E_callV (as := [(0, 3)]) 45 dX12_readFails_42 cf_X12_errs mw_1435 mw_1437 mw_51 ac_88 (by decide) cl_X12 rfl rfl (Nat.le_of_ble_eq_true rfl) (Nat.le_of_ble_eq_true rfl) ⟨Nat.le_refl _, Nat.le_refl _⟩ rfl (w.mono (fun r13 σ12 w => ?_))
        show XX g true (d + 1) P_X12_readFails 45 [(2, 88), (0, x1)] [(0, r13)] 136 σ12 136 Q
        exact E_iret dX12_readFails_45 rfl rfl w
    · have w := w.2 h
      refine E_aload_n 19 dX12_readFails_18 rfl (ac_88.bnd) rfl ?_
      refine E_get 23 22 dX12_readFails_19 fl_X12_211 ac_88 rfl (by decide) rfl rfl ?_
      refine E_iconst 23 dX12_readFails_22 (by decide) rfl ?_
      refine E_icmp_eq 26 34 dX12_readFails_23 rfl rfl (fun h => ?_) (fun h => ?_)
      · have w := w.1 h
        refine E_iload_n 35 dX12_readFails_34 rfl rfl ?_
        refine E_bipush 37 dX12_readFails_35 (by decide) rfl ?_
        refine E_icmp_ne 40 46 dX12_readFails_37 rfl rfl (fun h => ?_) (fun h => ?_)
        · have w := w.1 h
          refine E_aload_n 47 dX12_readFails_46 rfl (ac_88.bnd) rfl ?_
          refine E_bipush 49 dX12_readFails_47 (by decide) rfl ?_
          refine E_iload_n 50 dX12_readFails_49 rfl rfl ?_
          refine E_iadd 51 dX12_readFails_50 rfl ?_
          refine E_callV (as := [(0, w32 (8 + x1))]) 54 dX12_readFails_51 cf_X12_readFail mw_1439 mw_1441 mw_52 ac_88 (by decide) cl_X12 rfl rfl (Nat.le_of_ble_eq_true rfl) (Nat.le_of_ble_eq_true rfl) ⟨Nat.le_refl _, Nat.le_refl _⟩ rfl (w.mono (fun r15 σ14 w => ?_))
          show XX g true (d + 1) P_X12_readFails 54 [(2, 88), (0, x1)] [(0, r15)] 136 σ14 136 Q
          refine E_iconst 55 dX12_readFails_54 (by decide) rfl ?_
          refine E_icmp_ne 58 60 dX12_readFails_55 rfl rfl (fun h => ?_) (fun h => ?_)
          · have w := w.1 h
            refine E_aload_n 61 dX12_readFails_60 rfl (ac_88.bnd) rfl ?_
            refine E_bipush 63 dX12_readFails_61 (by decide) rfl ?_
            refine E_callV (as := [(0, 59)]) 66 dX12_readFails_63 cf_X12_isSign mw_1455 mw_1457 mw_56 ac_88 (by decide) cl_X12 rfl rfl (Nat.le_of_ble_eq_true rfl) (Nat.le_of_ble_eq_true rfl) ⟨Nat.le_refl _, Nat.le_refl _⟩ rfl (w.mono (fun r17 σ16 w => ?_))
            show XX g true (d + 1) P_X12_readFails 66 [(2, 88), (0, x1)] [(0, r17)] 136 σ16 136 Q
            refine E_if_ne 69 75 dX12_readFails_66 rfl rfl (fun h => ?_) (fun h => ?_)
            · have w := w.1 h
              refine E_aload_n 76 dX12_readFails_75 rfl (ac_88.bnd) rfl ?_
              refine E_callV (as := []) 79 dX12_readFails_76 cf_X12_reads mw_1407 mw_1409 mw_44 ac_88 (by decide) cl_X12 rfl rfl (Nat.le_of_ble_eq_true rfl) (Nat.le_of_ble_eq_true rfl) ⟨Nat.le_refl _, Nat.le_refl _⟩ rfl (w.mono (fun r19 σ18 w => ?_))
              show XX g true (d + 1) P_X12_readFails 79 [(2, 88), (0, x1)] [] 136 σ18 136 Q
              refine E_iload_n 80 dX12_readFails_79 rfl rfl ?_
              refine E_iconst 81 dX12_readFails_80 (by decide) rfl ?_
              refine E_iadd 82 dX12_readFails_81 rfl ?_
              refine E_top (fun y20 hy20 => ?_)
              have w := w y20 hy20
              refine E_istore_n (ls' := [(2, 88), (0, y20)]) 83 dX12_readFails_82 (by decide) rfl rfl ?_
              refine E_goto 2 dX12_readFails_83 rfl ?_
              with_reducible exact w
            · have w := w.2 h
              refine E_aload_n 70 dX12_readFails_69 rfl (ac_88.bnd) rfl ?_
              refine E_iconst 71 dX12_readFails_70 (by decide) rfl ?_
              refine E_callV (as := [(0, 1)]) 74 dX12_readFails_71 cf_X12_errs mw_1435 mw_1437 mw_51 ac_88 (by decide) cl_X12 rfl rfl (Nat.le_of_ble_eq_true rfl) (Nat.le_of_ble_eq_true rfl) ⟨Nat.le_refl _, Nat.le_refl _⟩ rfl (w.mono (fun r22 σ21 w => ?_))
              show XX g true (d + 1) P_X12_readFails 74 [(2, 88), (0, x1)] [(0, r22)] 136 σ21 136 Q
              exact E_iret dX12_readFails_74 rfl rfl w
          · have w := w.2 h
            refine E_iconst 59 dX12_readFails_58 (by decide) rfl ?_
            exact E_iret dX12_readFails_59 rfl rfl w
        · have w := w.2 h
          refine E_aload_n 41 dX12_readFails_40 rfl (ac_88.bnd) rfl ?_
          refine E_iconst 42 dX12_readFails_41 (by decide) rfl ?_
          refine E_callV (as := [(0, 3)]) 45 dX12_readFails_42 cf_X12_errs mw_1435 mw_1437 mw_51 ac_88 (by decide) cl_X12 rfl rfl (Nat.le_of_ble_eq_true rfl) (Nat.le_of_ble_eq_true rfl) ⟨Nat.le_refl _, Nat.le_refl _⟩ rfl (w.mono (fun r24 σ23 w => ?_))
          show XX g true (d + 1) P_X12_readFails 45 [(2, 88), (0, x1)] [(0, r24)] 136 σ23 136 Q
          exact E_iret dX12_readFails_45 rfl rfl w
      · have w := w.2 h
        refine E_aload_n 27 dX12_readFails_26 rfl (ac_88.bnd) rfl ?_
        refine E_get 23 30 dX12_readFails_27 fl_X12_211 ac_88 rfl (by decide) rfl rfl ?_
        refine E_iconst 31 dX12_readFails_30 (by decide) rfl ?_
        refine E_icmp_ne 34 86 dX12_readFails_31 rfl rfl (fun h => ?_) (fun h => ?_)
        · have w := w.1 h
          refine E_aload_n 87 dX12_readFails_86 rfl (ac_88.bnd) rfl ?_
          refine E_get 22 90 dX12_readFails_87 fl_X12_208 ac_88 rfl (by decide) rfl rfl ?_
          refine E_if_ne 93 97 dX12_readFails_90 rfl rfl (fun h => ?_) (fun h => ?_)
          · have w := w.1 h
            refine E_aload_n 98 dX12_readFails_97 rfl (ac_88.bnd) rfl ?_
            refine E_iconst 99 dX12_readFails_98 (by decide) rfl ?_
            refine E_callV (as := [(0, 1)]) 102 dX12_readFails_99 cf_X12_errs mw_1435 mw_1437 mw_51 ac_88 (by decide) cl_X12 rfl rfl (Nat.le_of_ble_eq_true rfl) (Nat.le_of_ble_eq_true rfl) ⟨Nat.le_refl _, Nat.le_refl _⟩ rfl (w.mono (fun r26 σ25 w => ?_))
            show XX g true (d + 1) P_X12_readFails 102 [(2, 88), (0, x1)] [(0, r26)] 136 σ25 136 Q
            exact E_iret dX12_readFails_102 rfl rfl w
          · have w := w.2 h
            refine E_iload_n 94 dX12_readFails_93 rfl rfl ?_
            refine E_goto 102 dX12_readFails_94 rfl ?_
            exact E_iret dX12_readFails_102 rfl rfl w
        · have w := w.2 h
          refine E_iload_n 35 dX12_readFails_34 rfl rfl ?_
          refine E_bipush 37 dX12_readFails_35 (by decide) rfl ?_
          refine E_icmp_ne 40 46 dX12_readFails_37 rfl rfl (fun h => ?_) (fun h => ?_)
          · have w := w.1 h
            refine E_aload_n 47 dX12_readFails_46 rfl (ac_88.bnd) rfl ?_
            refine E_bipush 49 dX12_readFails_47 (by decide) rfl ?_
            refine E_iload_n 50 dX12_readFails_49 rfl rfl ?_
            refine E_iadd 51 dX12_readFails_50 rfl ?_
            refine E_callV (as := [(0, w32 (8 + x1))]) 54 dX12_readFails_51 cf_X12_readFail mw_1439 mw_1441 mw_52 ac_88 (by decide) cl_X12 rfl rfl (Nat.le_of_ble_eq_true rfl) (Nat.le_of_ble_eq_true rfl) ⟨Nat.le_refl _, Nat.le_refl _⟩ rfl (w.mono (fun r28 σ27 w => ?_))
            show XX g true (d + 1) P_X12_readFails 54 [(2, 88), (0, x1)] [(0, r28)] 136 σ27 136 Q
            refine E_iconst 55 dX12_readFails_54 (by decide) rfl ?_
            refine E_icmp_ne 58 60 dX12_readFails_55 rfl rfl (fun h => ?_) (fun h => ?_)
            · have w := w.1 h
              refine E_aload_n 61 dX12_readFails_60 rfl (ac_88.bnd) rfl ?_
              refine E_bipush 63 dX12_readFails_61 (by decide) rfl ?_
              refine E_callV (as := [(0, 59)]) 66 dX12_readFails_63 cf_X12_isSign mw_1455 mw_1457 mw_56 ac_88 (by decide) cl_X12 rfl rfl (Nat.le_of_ble_eq_true rfl) (Nat.le_of_ble_eq_true rfl) ⟨Nat.le_refl _, Nat.le_refl _⟩ rfl (w.mono (fun r30 σ29 w => ?_))
              show XX g true (d + 1) P_X12_readFails 66 [(2, 88), (0, x1)] [(0, r30)] 136 σ29 136 Q
              refine E_if_ne 69 75 dX12_readFails_66 rfl rfl (fun h => ?_) (fun h => ?_)
              · have w := w.1 h
                refine E_aload_n 76 dX12_readFails_75 rfl (ac_88.bnd) rfl ?_
                refine E_callV (as := []) 79 dX12_readFails_76 cf_X12_reads mw_1407 mw_1409 mw_44 ac_88 (by decide) cl_X12 rfl rfl (Nat.le_of_ble_eq_true rfl) (Nat.le_of_ble_eq_true rfl) ⟨Nat.le_refl _, Nat.le_refl _⟩ rfl (w.mono (fun r32 σ31 w => ?_))
                show XX g true (d + 1) P_X12_readFails 79 [(2, 88), (0, x1)] [] 136 σ31 136 Q
                refine E_iload_n 80 dX12_readFails_79 rfl rfl ?_
                refine E_iconst 81 dX12_readFails_80 (by decide) rfl ?_
                refine E_iadd 82 dX12_readFails_81 rfl ?_
                refine E_top (fun y33 hy33 => ?_)
                have w := w y33 hy33
                refine E_istore_n (ls' := [(2, 88), (0, y33)]) 83 dX12_readFails_82 (by decide) rfl rfl ?_
                refine E_goto 2 dX12_readFails_83 rfl ?_
                with_reducible exact w
              · have w := w.2 h
                refine E_aload_n 70 dX12_readFails_69 rfl (ac_88.bnd) rfl ?_
                refine E_iconst 71 dX12_readFails_70 (by decide) rfl ?_
                refine E_callV (as := [(0, 1)]) 74 dX12_readFails_71 cf_X12_errs mw_1435 mw_1437 mw_51 ac_88 (by decide) cl_X12 rfl rfl (Nat.le_of_ble_eq_true rfl) (Nat.le_of_ble_eq_true rfl) ⟨Nat.le_refl _, Nat.le_refl _⟩ rfl (w.mono (fun r35 σ34 w => ?_))
                show XX g true (d + 1) P_X12_readFails 74 [(2, 88), (0, x1)] [(0, r35)] 136 σ34 136 Q
                exact E_iret dX12_readFails_74 rfl rfl w
            · have w := w.2 h
              refine E_iconst 59 dX12_readFails_58 (by decide) rfl ?_
              exact E_iret dX12_readFails_59 rfl rfl w
          · have w := w.2 h
            refine E_aload_n 41 dX12_readFails_40 rfl (ac_88.bnd) rfl ?_
            refine E_iconst 42 dX12_readFails_41 (by decide) rfl ?_
            refine E_callV (as := [(0, 3)]) 45 dX12_readFails_42 cf_X12_errs mw_1435 mw_1437 mw_51 ac_88 (by decide) cl_X12 rfl rfl (Nat.le_of_ble_eq_true rfl) (Nat.le_of_ble_eq_true rfl) ⟨Nat.le_refl _, Nat.le_refl _⟩ rfl (w.mono (fun r37 σ36 w => ?_))
            show XX g true (d + 1) P_X12_readFails 45 [(2, 88), (0, x1)] [(0, r37)] 136 σ36 136 Q
            exact E_iret dX12_readFails_45 rfl rfl w
theorem B_X12_takes_0 {g : PG} {d : Nat} {σ : PS} {Q : Int → PS → Prop} {x1 x2 : Int}  (w : (XX g true d P_X12_takes 2 [(2, 88), (0, x1), (0, x2), (0, 0)] [] 136 σ 136 Q)) : XX g true d P_X12_takes 0 [(2, 88), (0, x1), (0, x2), (9, 0)] [] 136 σ 136 Q := by
  refine E_iconst 1 dX12_takes_0 (by decide) rfl ?_
  refine E_istore_n (ls' := [(2, 88), (0, x1), (0, x2), (0, 0)]) 2 dX12_takes_1 (by decide) rfl rfl ?_
  with_reducible exact w
theorem B_X12_takes_2 {g : PG} {d : Nat} {σ : PS} {Q : Int → PS → Prop} {x1 x2 x3 : Int}  (w : ((x2 ≤ x3 → (XX g true d P_X12_takes 75 [(2, 88), (0, x1), (0, x2), (0, 0)] [] 136 σ 136 Q)) ∧ (x3 < x2 → (0 ≤ w32 (48 + x3) ∧ w32 (48 + x3) < 64) ∧ (0 ≤ w32 ((w32 (16 * x1)) + x3) ∧ w32 ((w32 (16 * x1)) + x3) < 64) ∧ (XX g true d P_X12_takes 2 [(2, 88), (0, x1), (0, x2), (0, w32 (x3 + 1))] [] 136 (su (su (su σ 101 (w32 ((w32 (16 * x1)) + x3)) (σ 101 (w32 (48 + x3)))) 102 (w32 ((w32 (16 * x1)) + x3)) (σ 102 (w32 (48 + x3)))) 103 (w32 ((w32 (16 * x1)) + x3)) (σ 103 (w32 (48 + x3)))) 136 Q)))) : XX g true d P_X12_takes 2 [(2, 88), (0, x1), (0, x2), (0, x3)] [] 136 σ 136 Q := by
  refine E_iload_n 3 dX12_takes_2 rfl rfl ?_
  refine E_iload_n 4 dX12_takes_3 rfl rfl ?_
  refine E_icmp_ge 7 73 dX12_takes_4 rfl rfl (fun h => ?_) (fun h => ?_)
  · have w := w.1 h
    refine E_iconst 74 dX12_takes_73 (by decide) rfl ?_
    refine E_istore_n (ls' := [(2, 88), (0, x1), (0, x2), (0, 0)]) 75 dX12_takes_74 (by decide) rfl rfl ?_
    with_reducible exact w
  · have w := w.2 h
    refine E_aload_n 8 dX12_takes_7 rfl (ac_88.bnd) rfl ?_
    refine E_getL 11 dX12_takes_8 fl_X12_53 ac_88 rfl (by decide) lay_88_26 rfl ?_
    refine E_bipush 13 dX12_takes_11 (by decide) rfl ?_
    refine E_iload_n 14 dX12_takes_13 rfl rfl ?_
    refine E_imul 15 dX12_takes_14 rfl ?_
    refine E_iload_n 16 dX12_takes_15 rfl rfl ?_
    refine E_iadd 17 dX12_takes_16 rfl ?_
    refine E_aload_n 18 dX12_takes_17 rfl (ac_88.bnd) rfl ?_
    refine E_getL 21 dX12_takes_18 fl_X12_53 ac_88 rfl (by decide) lay_88_26 rfl ?_
    refine E_bipush 23 dX12_takes_21 (by decide) rfl ?_
    refine E_iload_n 24 dX12_takes_23 rfl rfl ?_
    refine E_iadd 25 dX12_takes_24 rfl ?_
    obtain ⟨c1, w⟩ := w
    refine E_iald 26 dX12_takes_25 ac_101 c1 rfl ?_
    obtain ⟨c2, w⟩ := w
    refine E_iast 27 dX12_takes_26 ac_101 c2 rfl ?_
    refine E_aload_n 28 dX12_takes_27 rfl (ac_88.bnd) rfl ?_
    refine E_getL 31 dX12_takes_28 fl_X12_56 ac_88 rfl (by decide) lay_88_27 rfl ?_
    refine E_bipush 33 dX12_takes_31 (by decide) rfl ?_
    refine E_iload_n 34 dX12_takes_33 rfl rfl ?_
    refine E_imul 35 dX12_takes_34 rfl ?_
    refine E_iload_n 36 dX12_takes_35 rfl rfl ?_
    refine E_iadd 37 dX12_takes_36 rfl ?_
    refine E_aload_n 38 dX12_takes_37 rfl (ac_88.bnd) rfl ?_
    refine E_getL 41 dX12_takes_38 fl_X12_56 ac_88 rfl (by decide) lay_88_27 rfl ?_
    refine E_bipush 43 dX12_takes_41 (by decide) rfl ?_
    refine E_iload_n 44 dX12_takes_43 rfl rfl ?_
    refine E_iadd 45 dX12_takes_44 rfl ?_
    refine E_iald 46 dX12_takes_45 ac_102 c1 rfl ?_
    refine E_conv (su_ne (Or.inl (by decide))) ?_
    refine E_iast 47 dX12_takes_46 ac_102 c2 rfl ?_
    refine E_aload_n 48 dX12_takes_47 rfl (ac_88.bnd) rfl ?_
    refine E_getL 51 dX12_takes_48 fl_X12_59 ac_88 rfl (by decide) lay_88_28 rfl ?_
    refine E_bipush 53 dX12_takes_51 (by decide) rfl ?_
    refine E_iload_n 54 dX12_takes_53 rfl rfl ?_
    refine E_imul 55 dX12_takes_54 rfl ?_
    refine E_iload_n 56 dX12_takes_55 rfl rfl ?_
    refine E_iadd 57 dX12_takes_56 rfl ?_
    refine E_aload_n 58 dX12_takes_57 rfl (ac_88.bnd) rfl ?_
    refine E_getL 61 dX12_takes_58 fl_X12_59 ac_88 rfl (by decide) lay_88_28 rfl ?_
    refine E_bipush 63 dX12_takes_61 (by decide) rfl ?_
    refine E_iload_n 64 dX12_takes_63 rfl rfl ?_
    refine E_iadd 65 dX12_takes_64 rfl ?_
    refine E_iald 66 dX12_takes_65 ac_103 c1 rfl ?_
    refine E_conv ((su_ne (Or.inl (by decide))).trans (su_ne (Or.inl (by decide)))) ?_
    refine E_iast 67 dX12_takes_66 ac_103 c2 rfl ?_
    refine E_iinc (ls' := [(2, 88), (0, x1), (0, x2), (0, w32 (x3 + 1))]) 70 dX12_takes_67 (by decide) rfl rfl rfl ?_
    refine E_goto 2 dX12_takes_70 rfl ?_
    with_reducible exact w
theorem B_X12_takes_75 {g : PG} {d : Nat} {σ : PS} {Q : Int → PS → Prop} {x1 x2 x3 : Int}  (w : ((σ 88 32 ≤ x3 → (0 ≤ x1 ∧ x1 < 4) ∧ Q 0 (su σ 100 x1 x2)) ∧ (x3 < σ 88 32 → (0 ≤ w32 (1500 + x3) ∧ w32 (1500 + x3) < 2000) ∧ (0 ≤ w32 ((w32 (500 * x1)) + x3) ∧ w32 ((w32 (500 * x1)) + x3) < 2000) ∧ (XX g true d P_X12_takes 75 [(2, 88), (0, x1), (0, x2), (0, w32 (x3 + 1))] [] 136 (su (su σ 104 (w32 ((w32 (500 * x1)) + x3)) (σ 104 (w32 (1500 + x3)))) 105 (w32 ((w32 (500 * x1)) + x3)) (σ 105 (w32 (1500 + x3)))) 136 Q)))) : XX g true d P_X12_takes 75 [(2, 88), (0, x1), (0, x2), (0, x3)] [] 136 σ 136 Q := by
  refine E_iload_n 76 dX12_takes_75 rfl rfl ?_
  refine E_aload_n 77 dX12_takes_76 rfl (ac_88.bnd) rfl ?_
  refine E_get 32 80 dX12_takes_77 fl_X12_233 ac_88 rfl (by decide) rfl rfl ?_
  refine E_icmp_ge 83 133 dX12_takes_80 rfl rfl (fun h => ?_) (fun h => ?_)
  · have w := w.1 h
    refine E_aload_n 134 dX12_takes_133 rfl (ac_88.bnd) rfl ?_
    refine E_getL 137 dX12_takes_134 fl_X12_50 ac_88 rfl (by decide) lay_88_25 rfl ?_
    refine E_iload_n 138 dX12_takes_137 rfl rfl ?_
    refine E_iload_n 139 dX12_takes_138 rfl rfl ?_
    obtain ⟨c1, w⟩ := w
    refine E_iast 140 dX12_takes_139 ac_100 c1 rfl ?_
    exact E_vret dX12_takes_140 rfl rfl w
  · have w := w.2 h
    refine E_aload_n 84 dX12_takes_83 rfl (ac_88.bnd) rfl ?_
    refine E_getL 87 dX12_takes_84 fl_X12_62 ac_88 rfl (by decide) lay_88_29 rfl ?_
    refine E_sipush 90 dX12_takes_87 (by decide) rfl ?_
    refine E_iload_n 91 dX12_takes_90 rfl rfl ?_
    refine E_imul 92 dX12_takes_91 rfl ?_
    refine E_iload_n 93 dX12_takes_92 rfl rfl ?_
    refine E_iadd 94 dX12_takes_93 rfl ?_
    refine E_aload_n 95 dX12_takes_94 rfl (ac_88.bnd) rfl ?_
    refine E_getL 98 dX12_takes_95 fl_X12_62 ac_88 rfl (by decide) lay_88_29 rfl ?_
    refine E_sipush 101 dX12_takes_98 (by decide) rfl ?_
    refine E_iload_n 102 dX12_takes_101 rfl rfl ?_
    refine E_iadd 103 dX12_takes_102 rfl ?_
    obtain ⟨c2, w⟩ := w
    refine E_iald 104 dX12_takes_103 ac_104 c2 rfl ?_
    obtain ⟨c3, w⟩ := w
    refine E_iast 105 dX12_takes_104 ac_104 c3 rfl ?_
    refine E_aload_n 106 dX12_takes_105 rfl (ac_88.bnd) rfl ?_
    refine E_getL 109 dX12_takes_106 fl_X12_65 ac_88 rfl (by decide) lay_88_30 rfl ?_
    refine E_sipush 112 dX12_takes_109 (by decide) rfl ?_
    refine E_iload_n 113 dX12_takes_112 rfl rfl ?_
    refine E_imul 114 dX12_takes_113 rfl ?_
    refine E_iload_n 115 dX12_takes_114 rfl rfl ?_
    refine E_iadd 116 dX12_takes_115 rfl ?_
    refine E_aload_n 117 dX12_takes_116 rfl (ac_88.bnd) rfl ?_
    refine E_getL 120 dX12_takes_117 fl_X12_65 ac_88 rfl (by decide) lay_88_30 rfl ?_
    refine E_sipush 123 dX12_takes_120 (by decide) rfl ?_
    refine E_iload_n 124 dX12_takes_123 rfl rfl ?_
    refine E_iadd 125 dX12_takes_124 rfl ?_
    refine E_iald 126 dX12_takes_125 ac_105 c2 rfl ?_
    refine E_conv (su_ne (Or.inl (by decide))) ?_
    refine E_iast 127 dX12_takes_126 ac_105 c3 rfl ?_
    refine E_iinc (ls' := [(2, 88), (0, x1), (0, x2), (0, w32 (x3 + 1))]) 130 dX12_takes_127 (by decide) rfl rfl rfl ?_
    refine E_goto 75 dX12_takes_130 rfl ?_
    with_reducible exact w
theorem B_X12_takesFails_0 {g : PG} {d : Nat} {σ : PS} {Q : Int → PS → Prop} {x1 : Int}  (w : (XX g true d P_X12_takesFails 2 [(2, 88), (0, x1), (0, 0), (9, 0)] [] 136 σ 136 Q)) : XX g true d P_X12_takesFails 0 [(2, 88), (0, x1), (9, 0), (9, 0)] [] 136 σ 136 Q := by
  refine E_iconst 1 dX12_takesFails_0 (by decide) rfl ?_
  refine E_istore_n (ls' := [(2, 88), (0, x1), (0, 0), (9, 0)]) 2 dX12_takesFails_1 (by decide) rfl rfl ?_
  with_reducible exact w
theorem B_X12_takesFails_2 {g : PG} {d : Nat} {σ : PS} {Q : Int → PS → Prop} {x1 x2 : Int}  (w : ((x1 ≤ x2 → Q 0 (su σ 88 40 x1)) ∧ (x2 < x1 → (0 ≤ w32 (8 + x2) ∧ w32 (8 + x2) < 16) ∧ (0 ≤ x2 ∧ x2 < 16) ∧ (XX g true d P_X12_takesFails 54 [(2, 88), (0, x1), (0, x2), (0, 0)] [] 136 (su (su (su σ 107 x2 (σ 107 (w32 (8 + x2)))) 108 x2 (σ 108 (w32 (8 + x2)))) 109 x2 (σ 109 (w32 (8 + x2)))) 136 Q)))) : XX g true d P_X12_takesFails 2 [(2, 88), (0, x1), (0, x2), (9, 0)] [] 136 σ 136 Q := by
  refine E_iload_n 3 dX12_takesFails_2 rfl rfl ?_
  refine E_iload_n 4 dX12_takesFails_3 rfl rfl ?_
  refine E_icmp_ge 7 97 dX12_takesFails_4 rfl rfl (fun h => ?_) (fun h => ?_)
  · have w := w.1 h
    refine E_aload_n 98 dX12_takesFails_97 rfl (ac_88.bnd) rfl ?_
    refine E_iload_n 99 dX12_takesFails_98 rfl rfl ?_
    refine E_putI 40 102 dX12_takesFails_99 fl_X12_300 ac_88 rfl (by decide) (Or.inl rfl) rfl rfl ?_
    exact E_vret dX12_takesFails_102 rfl rfl w
  · have w := w.2 h
    refine E_aload_n 8 dX12_takesFails_7 rfl (ac_88.bnd) rfl ?_
    refine E_getL 11 dX12_takesFails_8 fl_X12_74 ac_88 rfl (by decide) lay_88_41 rfl ?_
    refine E_iload_n 12 dX12_takesFails_11 rfl rfl ?_
    refine E_aload_n 13 dX12_takesFails_12 rfl (ac_88.bnd) rfl ?_
    refine E_getL 16 dX12_takesFails_13 fl_X12_74 ac_88 rfl (by decide) lay_88_41 rfl ?_
    refine E_bipush 18 dX12_takesFails_16 (by decide) rfl ?_
    refine E_iload_n 19 dX12_takesFails_18 rfl rfl ?_
    refine E_iadd 20 dX12_takesFails_19 rfl ?_
    obtain ⟨c1, w⟩ := w
    refine E_iald 21 dX12_takesFails_20 ac_107 c1 rfl ?_
    obtain ⟨c2, w⟩ := w
    refine E_iast 22 dX12_takesFails_21 ac_107 c2 rfl ?_
    refine E_aload_n 23 dX12_takesFails_22 rfl (ac_88.bnd) rfl ?_
    refine E_getL 26 dX12_takesFails_23 fl_X12_77 ac_88 rfl (by decide) lay_88_42 rfl ?_
    refine E_iload_n 27 dX12_takesFails_26 rfl rfl ?_
    refine E_aload_n 28 dX12_takesFails_27 rfl (ac_88.bnd) rfl ?_
    refine E_getL 31 dX12_takesFails_28 fl_X12_77 ac_88 rfl (by decide) lay_88_42 rfl ?_
    refine E_bipush 33 dX12_takesFails_31 (by decide) rfl ?_
    refine E_iload_n 34 dX12_takesFails_33 rfl rfl ?_
    refine E_iadd 35 dX12_takesFails_34 rfl ?_
    refine E_iald 36 dX12_takesFails_35 ac_108 c1 rfl ?_
    refine E_conv (su_ne (Or.inl (by decide))) ?_
    refine E_iast 37 dX12_takesFails_36 ac_108 c2 rfl ?_
    refine E_aload_n 38 dX12_takesFails_37 rfl (ac_88.bnd) rfl ?_
    refine E_getL 41 dX12_takesFails_38 fl_X12_80 ac_88 rfl (by decide) lay_88_43 rfl ?_
    refine E_iload_n 42 dX12_takesFails_41 rfl rfl ?_
    refine E_aload_n 43 dX12_takesFails_42 rfl (ac_88.bnd) rfl ?_
    refine E_getL 46 dX12_takesFails_43 fl_X12_80 ac_88 rfl (by decide) lay_88_43 rfl ?_
    refine E_bipush 48 dX12_takesFails_46 (by decide) rfl ?_
    refine E_iload_n 49 dX12_takesFails_48 rfl rfl ?_
    refine E_iadd 50 dX12_takesFails_49 rfl ?_
    refine E_iald 51 dX12_takesFails_50 ac_109 c1 rfl ?_
    refine E_conv ((su_ne (Or.inl (by decide))).trans (su_ne (Or.inl (by decide)))) ?_
    refine E_iast 52 dX12_takesFails_51 ac_109 c2 rfl ?_
    refine E_iconst 53 dX12_takesFails_52 (by decide) rfl ?_
    refine E_istore_n (ls' := [(2, 88), (0, x1), (0, x2), (0, 0)]) 54 dX12_takesFails_53 (by decide) rfl rfl ?_
    with_reducible exact w
theorem B_X12_takesFails_54 {g : PG} {d : Nat} {σ : PS} {Q : Int → PS → Prop} {x1 x2 x3 : Int}  (w : ((8 ≤ x3 → (XX g true d P_X12_takesFails 2 [(2, 88), (0, x1), (0, w32 (x2 + 1)), (9, 0)] [] 136 σ 136 Q)) ∧ (x3 < 8 → (0 ≤ w32 ((w32 (8 * (w32 (8 + x2)))) + x3) ∧ w32 ((w32 (8 * (w32 (8 + x2)))) + x3) < 128) ∧ (0 ≤ w32 ((w32 (8 * x2)) + x3) ∧ w32 ((w32 (8 * x2)) + x3) < 128) ∧ (XX g true d P_X12_takesFails 54 [(2, 88), (0, x1), (0, x2), (0, w32 (x3 + 1))] [] 136 (su σ 110 (w32 ((w32 (8 * x2)) + x3)) (σ 110 (w32 ((w32 (8 * (w32 (8 + x2)))) + x3)))) 136 Q)))) : XX g true d P_X12_takesFails 54 [(2, 88), (0, x1), (0, x2), (0, x3)] [] 136 σ 136 Q := by
  refine E_iload_n 55 dX12_takesFails_54 rfl rfl ?_
  refine E_bipush 57 dX12_takesFails_55 (by decide) rfl ?_
  refine E_icmp_ge 60 91 dX12_takesFails_57 rfl rfl (fun h => ?_) (fun h => ?_)
  · have w := w.1 h
    refine E_iinc (ls' := [(2, 88), (0, x1), (0, w32 (x2 + 1)), (0, x3)]) 94 dX12_takesFails_91 (by decide) rfl rfl rfl ?_
    refine E_goto 2 dX12_takesFails_94 rfl ?_
    refine XX.fg [3] [(2, 88), (0, x1), (0, w32 (x2 + 1)), (9, 0)] rfl ?_
    with_reducible exact w
  · have w := w.2 h
    refine E_aload_n 61 dX12_takesFails_60 rfl (ac_88.bnd) rfl ?_
    refine E_getL 64 dX12_takesFails_61 fl_X12_83 ac_88 rfl (by decide) lay_88_44 rfl ?_
    refine E_bipush 66 dX12_takesFails_64 (by decide) rfl ?_
    refine E_iload_n 67 dX12_takesFails_66 rfl rfl ?_
    refine E_imul 68 dX12_takesFails_67 rfl ?_
    refine E_iload_n 69 dX12_takesFails_68 rfl rfl ?_
    refine E_iadd 70 dX12_takesFails_69 rfl ?_
    refine E_aload_n 71 dX12_takesFails_70 rfl (ac_88.bnd) rfl ?_
    refine E_getL 74 dX12_takesFails_71 fl_X12_83 ac_88 rfl (by decide) lay_88_44 rfl ?_
    refine E_bipush 76 dX12_takesFails_74 (by decide) rfl ?_
    refine E_bipush 78 dX12_takesFails_76 (by decide) rfl ?_
    refine E_iload_n 79 dX12_takesFails_78 rfl rfl ?_
    refine E_iadd 80 dX12_takesFails_79 rfl ?_
    refine E_imul 81 dX12_takesFails_80 rfl ?_
    refine E_iload_n 82 dX12_takesFails_81 rfl rfl ?_
    refine E_iadd 83 dX12_takesFails_82 rfl ?_
    obtain ⟨c1, w⟩ := w
    refine E_iald 84 dX12_takesFails_83 ac_110 c1 rfl ?_
    obtain ⟨c2, w⟩ := w
    refine E_iast 85 dX12_takesFails_84 ac_110 c2 rfl ?_
    refine E_iinc (ls' := [(2, 88), (0, x1), (0, x2), (0, w32 (x3 + 1))]) 88 dX12_takesFails_85 (by decide) rfl rfl rfl ?_
    refine E_goto 54 dX12_takesFails_88 rfl ?_
    with_reducible exact w
theorem B_X12_text_0 {g : PG} {d : Nat} {σ : PS} {Q : Int → PS → Prop} {x1 : Int}  (w : XX g true d P_X12_isIn 0 [(2, 88), (0, x1), (0, 0), (0, 3)] [] 136 (su (su (su σ 88 0 0) 88 38 0) 88 39 (-1)) 136 (fun r2 σ1 => ((x1 ≠ 0 → (XX g true (d + 1) P_X12_text 36 [(2, 88), (0, x1), (0, r2), (9, 0)] [] 136 (su σ1 88 31 0) 136 Q)) ∧ (x1 = 0 → (XX g true (d + 1) P_X12_text 36 [(2, 88), (0, x1), (0, r2), (9, 0)] [] 136 (su σ1 88 31 1) 136 Q))))) : XX g true (d + 1) P_X12_text 0 [(2, 88), (0, x1), (9, 0), (9, 0)] [] 136 σ 136 Q := by
  refine E_aload_n 1 dX12_text_0 rfl (ac_88.bnd) rfl ?_
  refine E_iconst 2 dX12_text_1 (by decide) rfl ?_
  refine E_putI 0 5 dX12_text_2 fl_X12_166 ac_88 rfl (by decide) (Or.inl rfl) rfl rfl ?_
  refine E_aload_n 6 dX12_text_5 rfl (ac_88.bnd) rfl ?_
  refine E_iconst 7 dX12_text_6 (by decide) rfl ?_
  refine E_putI 38 10 dX12_text_7 fl_X12_303 ac_88 rfl (by decide) (Or.inl rfl) rfl rfl ?_
  refine E_aload_n 11 dX12_text_10 rfl (ac_88.bnd) rfl ?_
  refine E_iconst 12 dX12_text_11 (by decide) rfl ?_
  refine E_putI 39 15 dX12_text_12 fl_X12_71 ac_88 rfl (by decide) (Or.inl rfl) rfl rfl ?_
  refine E_aload_n 16 dX12_text_15 rfl (ac_88.bnd) rfl ?_
  refine E_iload_n 17 dX12_text_16 rfl rfl ?_
  refine E_iconst 18 dX12_text_17 (by decide) rfl ?_
  refine E_iconst 19 dX12_text_18 (by decide) rfl ?_
  refine E_callV (as := [(0, x1), (0, 0), (0, 3)]) 22 dX12_text_19 cf_X12_isIn mw_1363 mw_1365 mw_39 ac_88 (by decide) cl_X12 rfl rfl (Nat.le_of_ble_eq_true rfl) (Nat.le_of_ble_eq_true rfl) ⟨Nat.le_refl _, Nat.le_refl _⟩ rfl (w.mono (fun r2 σ1 w => ?_))
  show XX g true (d + 1) P_X12_text 22 [(2, 88), (0, x1), (9, 0), (9, 0)] [(0, r2)] 136 σ1 136 Q
  refine E_istore_n (ls' := [(2, 88), (0, x1), (0, r2), (9, 0)]) 23 dX12_text_22 (by decide) rfl rfl ?_
  refine E_aload_n 24 dX12_text_23 rfl (ac_88.bnd) rfl ?_
  refine E_iload_n 25 dX12_text_24 rfl rfl ?_
  refine E_if_ne 28 32 dX12_text_25 rfl rfl (fun h => ?_) (fun h => ?_)
  · have w := w.1 h
    refine E_iconst 33 dX12_text_32 (by decide) rfl ?_
    refine E_putZ 31 36 dX12_text_33 fl_X12_236 ac_88 rfl (by decide) (Or.inl rfl) (Or.inl rfl) rfl rfl ?_
    with_reducible exact w
  · have w := w.2 h
    refine E_iconst 29 dX12_text_28 (by decide) rfl ?_
    refine E_goto 33 dX12_text_29 rfl ?_
    refine E_putZ 31 36 dX12_text_33 fl_X12_236 ac_88 rfl (by decide) (Or.inl rfl) (Or.inr rfl) rfl rfl ?_
    with_reducible exact w
theorem B_X12_text_36 {g : PG} {d : Nat} {σ : PS} {Q : Int → PS → Prop} {x1 x2 : Int}  (w : XX g true d P_X12_reads 0 [(2, 88), (9, 0)] [] 136 (su (su (su σ 88 20 0) 88 32 0) 88 33 0) 136 (fun _ σ1 => ((x2 ≠ 0 → ((x1 ≠ 3 → XX g true d P_X12_readLaw 0 [(2, 88), (9, 0)] [] 136 σ1 136 (fun r4 σ3 => (XX g true (d + 1) P_X12_text 80 [(2, 88), (0, x1), (0, x2), (0, r4)] [] 136 σ3 136 Q))) ∧ (x1 = 3 → XX g true d P_X12_readFails 0 [(2, 88), (9, 0)] [] 136 σ1 136 (fun r6 σ5 => (XX g true (d + 1) P_X12_text 80 [(2, 88), (0, x1), (0, x2), (0, r6)] [] 136 σ5 136 Q))))) ∧ (x2 = 0 → (XX g true (d + 1) P_X12_text 80 [(2, 88), (0, x1), (0, x2), (0, (-1))] [] 136 σ1 136 Q))))) : XX g true (d + 1) P_X12_text 36 [(2, 88), (0, x1), (0, x2), (9, 0)] [] 136 σ 136 Q := by
  refine E_aload_n 37 dX12_text_36 rfl (ac_88.bnd) rfl ?_
  refine E_iconst 38 dX12_text_37 (by decide) rfl ?_
  refine E_putI 20 41 dX12_text_38 fl_X12_199 ac_88 rfl (by decide) (Or.inl rfl) rfl rfl ?_
  refine E_aload_n 42 dX12_text_41 rfl (ac_88.bnd) rfl ?_
  refine E_iconst 43 dX12_text_42 (by decide) rfl ?_
  refine E_putI 32 46 dX12_text_43 fl_X12_233 ac_88 rfl (by decide) (Or.inl rfl) rfl rfl ?_
  refine E_aload_n 47 dX12_text_46 rfl (ac_88.bnd) rfl ?_
  refine E_iconst 48 dX12_text_47 (by decide) rfl ?_
  refine E_putI 33 51 dX12_text_48 fl_X12_270 ac_88 rfl (by decide) (Or.inl rfl) rfl rfl ?_
  refine E_aload_n 52 dX12_text_51 rfl (ac_88.bnd) rfl ?_
  refine E_callV (as := []) 55 dX12_text_52 cf_X12_reads mw_1407 mw_1409 mw_44 ac_88 (by decide) cl_X12 rfl rfl (Nat.le_of_ble_eq_true rfl) (Nat.le_of_ble_eq_true rfl) ⟨Nat.le_refl _, Nat.le_refl _⟩ rfl (w.mono (fun r2 σ1 w => ?_))
  show XX g true (d + 1) P_X12_text 55 [(2, 88), (0, x1), (0, x2), (9, 0)] [] 136 σ1 136 Q
  refine E_iload_n 56 dX12_text_55 rfl rfl ?_
  refine E_if_ne 59 63 dX12_text_56 rfl rfl (fun h => ?_) (fun h => ?_)
  · have w := w.1 h
    refine E_iload_n 64 dX12_text_63 rfl rfl ?_
    refine E_iconst 65 dX12_text_64 (by decide) rfl ?_
    refine E_icmp_ne 68 75 dX12_text_65 rfl rfl (fun h => ?_) (fun h => ?_)
    · have w := w.1 h
      refine E_aload_n 76 dX12_text_75 rfl (ac_88.bnd) rfl ?_
      refine E_callV (as := []) 79 dX12_text_76 cf_X12_readLaw mw_1459 mw_1461 mw_57 ac_88 (by decide) cl_X12 rfl rfl (Nat.le_of_ble_eq_true rfl) (Nat.le_of_ble_eq_true rfl) ⟨Nat.le_refl _, Nat.le_refl _⟩ rfl (w.mono (fun r4 σ3 w => ?_))
      show XX g true (d + 1) P_X12_text 79 [(2, 88), (0, x1), (0, x2), (9, 0)] [(0, r4)] 136 σ3 136 Q
      refine E_istore_n (ls' := [(2, 88), (0, x1), (0, x2), (0, r4)]) 80 dX12_text_79 (by decide) rfl rfl ?_
      with_reducible exact w
    · have w := w.2 h
      refine E_aload_n 69 dX12_text_68 rfl (ac_88.bnd) rfl ?_
      refine E_callV (as := []) 72 dX12_text_69 cf_X12_readFails mw_1431 mw_1433 mw_50 ac_88 (by decide) cl_X12 rfl rfl (Nat.le_of_ble_eq_true rfl) (Nat.le_of_ble_eq_true rfl) ⟨Nat.le_refl _, Nat.le_refl _⟩ rfl (w.mono (fun r6 σ5 w => ?_))
      show XX g true (d + 1) P_X12_text 72 [(2, 88), (0, x1), (0, x2), (9, 0)] [(0, r6)] 136 σ5 136 Q
      refine E_goto 79 dX12_text_72 rfl ?_
      refine E_istore_n (ls' := [(2, 88), (0, x1), (0, x2), (0, r6)]) 80 dX12_text_79 (by decide) rfl rfl ?_
      with_reducible exact w
  · have w := w.2 h
    refine E_iconst 60 dX12_text_59 (by decide) rfl ?_
    refine E_goto 79 dX12_text_60 rfl ?_
    refine E_istore_n (ls' := [(2, 88), (0, x1), (0, x2), (0, (-1))]) 80 dX12_text_79 (by decide) rfl rfl ?_
    with_reducible exact w
theorem B_X12_text_80 {g : PG} {d : Nat} {σ : PS} {Q : Int → PS → Prop} {x1 x2 x3 : Int}  (w : ((x2 = 0 → (XX g true (d + 1) P_X12_text 110 [(2, 88), (0, x1), (9, 0), (0, x3)] [] 136 (su σ 88 19 0) 136 Q)) ∧ (x2 ≠ 0 → ((x3 ≠ (-1) → (XX g true (d + 1) P_X12_text 110 [(2, 88), (0, x1), (9, 0), (0, x3)] [] 136 (su σ 88 19 0) 136 Q)) ∧ (x3 = (-1) → (XX g true (d + 1) P_X12_text 110 [(2, 88), (0, x1), (9, 0), (0, x3)] [] 136 (su (su (su σ 88 19 0) 88 38 (σ 88 36)) 88 39 (σ 88 37)) 136 Q)))))) : XX g true (d + 1) P_X12_text 80 [(2, 88), (0, x1), (0, x2), (0, x3)] [] 136 σ 136 Q := by
  refine E_aload_n 81 dX12_text_80 rfl (ac_88.bnd) rfl ?_
  refine E_iconst 82 dX12_text_81 (by decide) rfl ?_
  refine E_putI 19 85 dX12_text_82 fl_X12_192 ac_88 rfl (by decide) (Or.inl rfl) rfl rfl ?_
  refine E_iload_n 86 dX12_text_85 rfl rfl ?_
  refine E_if_eq 89 110 dX12_text_86 rfl rfl (fun h => ?_) (fun h => ?_)
  · have w := w.1 h
    refine XX.fg [2] [(2, 88), (0, x1), (9, 0), (0, x3)] rfl ?_
    with_reducible exact w
  · have w := w.2 h
    refine E_iload_n 90 dX12_text_89 rfl rfl ?_
    refine E_iconst 91 dX12_text_90 (by decide) rfl ?_
    refine E_icmp_ne 94 110 dX12_text_91 rfl rfl (fun h => ?_) (fun h => ?_)
    · have w := w.1 h
      refine XX.fg [2] [(2, 88), (0, x1), (9, 0), (0, x3)] rfl ?_
      with_reducible exact w
    · have w := w.2 h
      refine E_aload_n 95 dX12_text_94 rfl (ac_88.bnd) rfl ?_
      refine E_aload_n 96 dX12_text_95 rfl (ac_88.bnd) rfl ?_
      refine E_get 36 99 dX12_text_96 fl_X12_227 ac_88 rfl (by decide) rfl rfl ?_
      refine E_conv (su_ne (Or.inr (by decide))) ?_
      refine E_putI 38 102 dX12_text_99 fl_X12_303 ac_88 rfl (by decide) (Or.inl rfl) rfl rfl ?_
      refine E_aload_n 103 dX12_text_102 rfl (ac_88.bnd) rfl ?_
      refine E_aload_n 104 dX12_text_103 rfl (ac_88.bnd) rfl ?_
      refine E_get 37 107 dX12_text_104 fl_X12_230 ac_88 rfl (by decide) rfl rfl ?_
      refine E_conv ((su_ne (Or.inr (by decide))).trans (su_ne (Or.inr (by decide)))) ?_
      refine E_putI 39 110 dX12_text_107 fl_X12_71 ac_88 rfl (by decide) (Or.inl rfl) rfl rfl ?_
      refine XX.fg [2] [(2, 88), (0, x1), (9, 0), (0, x3)] rfl ?_
      with_reducible exact w
theorem B_X12_text_110 {g : PG} {d : Nat} {σ : PS} {Q : Int → PS → Prop} {x1 x3 : Int}  (w : ((x3 ≠ (-1) → ((x1 ≠ 3 → XX g true d P_X12_takes 0 [(2, 88), (0, x1), (0, x3), (9, 0)] [] 136 σ 136 (fun _ σ1 => (XX g true (d + 1) P_X12_text 136 [(9, 0), (9, 0), (9, 0), (0, x3)] [] 136 σ1 136 Q))) ∧ (x1 = 3 → XX g true d P_X12_takesFails 0 [(2, 88), (0, x3), (9, 0), (9, 0)] [] 136 σ 136 (fun _ σ3 => (XX g true (d + 1) P_X12_text 136 [(9, 0), (9, 0), (9, 0), (0, x3)] [] 136 σ3 136 Q))))) ∧ (x3 = (-1) → Q (-1) σ))) : XX g true (d + 1) P_X12_text 110 [(2, 88), (0, x1), (9, 0), (0, x3)] [] 136 σ 136 Q := by
  refine E_iload_n 111 dX12_text_110 rfl rfl ?_
  refine E_iconst 112 dX12_text_111 (by decide) rfl ?_
  refine E_icmp_ne 115 117 dX12_text_112 rfl rfl (fun h => ?_) (fun h => ?_)
  · have w := w.1 h
    refine E_iload_n 118 dX12_text_117 rfl rfl ?_
    refine E_iconst 119 dX12_text_118 (by decide) rfl ?_
    refine E_icmp_ne 122 130 dX12_text_119 rfl rfl (fun h => ?_) (fun h => ?_)
    · have w := w.1 h
      refine E_aload_n 131 dX12_text_130 rfl (ac_88.bnd) rfl ?_
      refine E_iload_n 132 dX12_text_131 rfl rfl ?_
      refine E_iload_n 133 dX12_text_132 rfl rfl ?_
      refine E_callV (as := [(0, x1), (0, x3)]) 136 dX12_text_133 cf_X12_takes mw_1507 mw_1509 mw_69 ac_88 (by decide) cl_X12 rfl rfl (Nat.le_of_ble_eq_true rfl) (Nat.le_of_ble_eq_true rfl) ⟨Nat.le_refl _, Nat.le_refl _⟩ rfl (w.mono (fun r2 σ1 w => ?_))
      show XX g true (d + 1) P_X12_text 136 [(2, 88), (0, x1), (9, 0), (0, x3)] [] 136 σ1 136 Q
      refine XX.fg [0, 1] [(9, 0), (9, 0), (9, 0), (0, x3)] rfl ?_
      with_reducible exact w
    · have w := w.2 h
      refine E_aload_n 123 dX12_text_122 rfl (ac_88.bnd) rfl ?_
      refine E_iload_n 124 dX12_text_123 rfl rfl ?_
      refine E_callV (as := [(0, x3)]) 127 dX12_text_124 cf_X12_takesFails mw_1503 mw_1505 mw_68 ac_88 (by decide) cl_X12 rfl rfl (Nat.le_of_ble_eq_true rfl) (Nat.le_of_ble_eq_true rfl) ⟨Nat.le_refl _, Nat.le_refl _⟩ rfl (w.mono (fun r4 σ3 w => ?_))
      show XX g true (d + 1) P_X12_text 127 [(2, 88), (0, x1), (9, 0), (0, x3)] [] 136 σ3 136 Q
      refine E_goto 136 dX12_text_127 rfl ?_
      refine XX.fg [0, 1] [(9, 0), (9, 0), (9, 0), (0, x3)] rfl ?_
      with_reducible exact w
  · have w := w.2 h
    refine E_iconst 116 dX12_text_115 (by decide) rfl ?_
    exact E_iret dX12_text_116 rfl rfl w
theorem B_X12_text_136 {g : PG} {d : Nat} {σ : PS} {Q : Int → PS → Prop} {x3 : Int}  (w : Q x3 σ) : XX g true (d + 1) P_X12_text 136 [(9, 0), (9, 0), (9, 0), (0, x3)] [] 136 σ 136 Q := by
  refine E_iload_n 137 dX12_text_136 rfl rfl ?_
  exact E_iret dX12_text_137 rfl rfl w
theorem B_X12_fault_0 {g : PG} {d : Nat} {σ : PS} {Q : Int → PS → Prop} {x1 : Int}  (w : ((x1 ≠ 0 → ((x1 ≠ 1 → Q (-1) (su σ 88 0 0)) ∧ (x1 = 1 → Q (σ 88 39) (su σ 88 0 0)))) ∧ (x1 = 0 → Q (σ 88 38) (su σ 88 0 0)))) : XX g true d P_X12_fault 0 [(2, 88), (0, x1)] [] 136 σ 136 Q := by
  refine E_aload_n 1 dX12_fault_0 rfl (ac_88.bnd) rfl ?_
  refine E_iconst 2 dX12_fault_1 (by decide) rfl ?_
  refine E_putI 0 5 dX12_fault_2 fl_X12_166 ac_88 rfl (by decide) (Or.inl rfl) rfl rfl ?_
  refine E_iload_n 6 dX12_fault_5 rfl rfl ?_
  refine E_if_ne 9 16 dX12_fault_6 rfl rfl (fun h => ?_) (fun h => ?_)
  · have w := w.1 h
    refine E_iload_n 17 dX12_fault_16 rfl rfl ?_
    refine E_iconst 18 dX12_fault_17 (by decide) rfl ?_
    refine E_icmp_ne 21 28 dX12_fault_18 rfl rfl (fun h => ?_) (fun h => ?_)
    · have w := w.1 h
      refine E_iconst 29 dX12_fault_28 (by decide) rfl ?_
      exact E_iret dX12_fault_29 rfl rfl w
    · have w := w.2 h
      refine E_aload_n 22 dX12_fault_21 rfl (ac_88.bnd) rfl ?_
      refine E_get 39 25 dX12_fault_22 fl_X12_71 ac_88 rfl (by decide) rfl rfl ?_
      refine E_conv (su_ne (Or.inr (by decide))) ?_
      refine E_goto 29 dX12_fault_25 rfl ?_
      exact E_iret dX12_fault_29 rfl rfl w
  · have w := w.2 h
    refine E_aload_n 10 dX12_fault_9 rfl (ac_88.bnd) rfl ?_
    refine E_get 38 13 dX12_fault_10 fl_X12_303 ac_88 rfl (by decide) rfl rfl ?_
    refine E_conv (su_ne (Or.inr (by decide))) ?_
    refine E_goto 29 dX12_fault_13 rfl ?_
    exact E_iret dX12_fault_29 rfl rfl w
theorem B_X12_twoOf_0 {g : PG} {d : Nat} {σ : PS} {Q : Int → PS → Prop} {x1 x2 x3 : Int}  (w : ((x1 ≠ 2 → ((x1 ≠ 3 → ((x1 ≠ 4 → ((x1 ≠ 5 → ((x1 ≠ 6 → ((x1 ≠ 7 → ((x1 ≠ 8 → ((x1 ≠ 10 → ((w32 (x2 + x3) ≤ 0 → Q 0 σ) ∧ (0 < w32 (x2 + x3) → Q 1 σ))) ∧ (x1 = 10 → Q (w32 (x2 * x3)) σ))) ∧ (x1 = 8 → ((x2 ≤ x3 → Q 0 σ) ∧ (x3 < x2 → Q 1 σ))))) ∧ (x1 = 7 → ((x2 ≠ x3 → Q 0 σ) ∧ (x2 = x3 → Q 1 σ))))) ∧ (x1 = 6 → ((x3 ≤ x2 → Q 0 σ) ∧ (x2 < x3 → Q 1 σ))))) ∧ (x1 = 5 → x3 ≠ 0 ∧ Q (idiv x2 x3) σ))) ∧ (x1 = 4 → Q (w32 (x2 * x3)) σ))) ∧ (x1 = 3 → Q (w32 (x2 - x3)) σ))) ∧ (x1 = 2 → Q (w32 (x2 + x3)) σ))) : XX g true d P_X12_twoOf 0 [(2, 88), (0, x1), (0, x2), (0, x3)] [] 136 σ 136 Q := by
  refine E_iload_n 1 dX12_twoOf_0 rfl rfl ?_
  refine E_iconst 2 dX12_twoOf_1 (by decide) rfl ?_
  refine E_icmp_ne 5 9 dX12_twoOf_2 rfl rfl (fun h => ?_) (fun h => ?_)
  · have w := w.1 h
    refine E_iload_n 10 dX12_twoOf_9 rfl rfl ?_
    refine E_iconst 11 dX12_twoOf_10 (by decide) rfl ?_
    refine E_icmp_ne 14 18 dX12_twoOf_11 rfl rfl (fun h => ?_) (fun h => ?_)
    · have w := w.1 h
      refine E_iload_n 19 dX12_twoOf_18 rfl rfl ?_
      refine E_iconst 20 dX12_twoOf_19 (by decide) rfl ?_
      refine E_icmp_ne 23 27 dX12_twoOf_20 rfl rfl (fun h => ?_) (fun h => ?_)
      · have w := w.1 h
        refine E_iload_n 28 dX12_twoOf_27 rfl rfl ?_
        refine E_iconst 29 dX12_twoOf_28 (by decide) rfl ?_
        refine E_icmp_ne 32 36 dX12_twoOf_29 rfl rfl (fun h => ?_) (fun h => ?_)
        · have w := w.1 h
          refine E_iload_n 37 dX12_twoOf_36 rfl rfl ?_
          refine E_bipush 39 dX12_twoOf_37 (by decide) rfl ?_
          refine E_icmp_ne 42 53 dX12_twoOf_39 rfl rfl (fun h => ?_) (fun h => ?_)
          · have w := w.1 h
            refine E_iload_n 54 dX12_twoOf_53 rfl rfl ?_
            refine E_bipush 56 dX12_twoOf_54 (by decide) rfl ?_
            refine E_icmp_ne 59 70 dX12_twoOf_56 rfl rfl (fun h => ?_) (fun h => ?_)
            · have w := w.1 h
              refine E_iload_n 71 dX12_twoOf_70 rfl rfl ?_
              refine E_bipush 73 dX12_twoOf_71 (by decide) rfl ?_
              refine E_icmp_ne 76 87 dX12_twoOf_73 rfl rfl (fun h => ?_) (fun h => ?_)
              · have w := w.1 h
                refine E_iload_n 88 dX12_twoOf_87 rfl rfl ?_
                refine E_bipush 90 dX12_twoOf_88 (by decide) rfl ?_
                refine E_icmp_ne 93 99 dX12_twoOf_90 rfl rfl (fun h => ?_) (fun h => ?_)
                · have w := w.1 h
                  refine E_iload_n 100 dX12_twoOf_99 rfl rfl ?_
                  refine E_iload_n 101 dX12_twoOf_100 rfl rfl ?_
                  refine E_iadd 102 dX12_twoOf_101 rfl ?_
                  refine E_if_le 105 109 dX12_twoOf_102 rfl rfl (fun h => ?_) (fun h => ?_)
                  · have w := w.1 h
                    refine E_iconst 110 dX12_twoOf_109 (by decide) rfl ?_
                    exact E_iret dX12_twoOf_110 rfl rfl w
                  · have w := w.2 h
                    refine E_iconst 106 dX12_twoOf_105 (by decide) rfl ?_
                    refine E_goto 110 dX12_twoOf_106 rfl ?_
                    exact E_iret dX12_twoOf_110 rfl rfl w
                · have w := w.2 h
                  refine E_iload_n 94 dX12_twoOf_93 rfl rfl ?_
                  refine E_iload_n 95 dX12_twoOf_94 rfl rfl ?_
                  refine E_imul 96 dX12_twoOf_95 rfl ?_
                  refine E_goto 110 dX12_twoOf_96 rfl ?_
                  exact E_iret dX12_twoOf_110 rfl rfl w
              · have w := w.2 h
                refine E_iload_n 77 dX12_twoOf_76 rfl rfl ?_
                refine E_iload_n 78 dX12_twoOf_77 rfl rfl ?_
                refine E_icmp_le 81 85 dX12_twoOf_78 rfl rfl (fun h => ?_) (fun h => ?_)
                · have w := w.1 h
                  refine E_iconst 86 dX12_twoOf_85 (by decide) rfl ?_
                  exact E_iret dX12_twoOf_86 rfl rfl w
                · have w := w.2 h
                  refine E_iconst 82 dX12_twoOf_81 (by decide) rfl ?_
                  refine E_goto 86 dX12_twoOf_82 rfl ?_
                  exact E_iret dX12_twoOf_86 rfl rfl w
            · have w := w.2 h
              refine E_iload_n 60 dX12_twoOf_59 rfl rfl ?_
              refine E_iload_n 61 dX12_twoOf_60 rfl rfl ?_
              refine E_icmp_ne 64 68 dX12_twoOf_61 rfl rfl (fun h => ?_) (fun h => ?_)
              · have w := w.1 h
                refine E_iconst 69 dX12_twoOf_68 (by decide) rfl ?_
                exact E_iret dX12_twoOf_69 rfl rfl w
              · have w := w.2 h
                refine E_iconst 65 dX12_twoOf_64 (by decide) rfl ?_
                refine E_goto 69 dX12_twoOf_65 rfl ?_
                exact E_iret dX12_twoOf_69 rfl rfl w
          · have w := w.2 h
            refine E_iload_n 43 dX12_twoOf_42 rfl rfl ?_
            refine E_iload_n 44 dX12_twoOf_43 rfl rfl ?_
            refine E_icmp_ge 47 51 dX12_twoOf_44 rfl rfl (fun h => ?_) (fun h => ?_)
            · have w := w.1 h
              refine E_iconst 52 dX12_twoOf_51 (by decide) rfl ?_
              exact E_iret dX12_twoOf_52 rfl rfl w
            · have w := w.2 h
              refine E_iconst 48 dX12_twoOf_47 (by decide) rfl ?_
              refine E_goto 52 dX12_twoOf_48 rfl ?_
              exact E_iret dX12_twoOf_52 rfl rfl w
        · have w := w.2 h
          refine E_iload_n 33 dX12_twoOf_32 rfl rfl ?_
          refine E_iload_n 34 dX12_twoOf_33 rfl rfl ?_
          obtain ⟨c1, w⟩ := w
          refine E_idiv 35 dX12_twoOf_34 c1 rfl ?_
          exact E_iret dX12_twoOf_35 rfl rfl w
      · have w := w.2 h
        refine E_iload_n 24 dX12_twoOf_23 rfl rfl ?_
        refine E_iload_n 25 dX12_twoOf_24 rfl rfl ?_
        refine E_imul 26 dX12_twoOf_25 rfl ?_
        exact E_iret dX12_twoOf_26 rfl rfl w
    · have w := w.2 h
      refine E_iload_n 15 dX12_twoOf_14 rfl rfl ?_
      refine E_iload_n 16 dX12_twoOf_15 rfl rfl ?_
      refine E_isub 17 dX12_twoOf_16 rfl ?_
      exact E_iret dX12_twoOf_17 rfl rfl w
  · have w := w.2 h
    refine E_iload_n 6 dX12_twoOf_5 rfl rfl ?_
    refine E_iload_n 7 dX12_twoOf_6 rfl rfl ?_
    refine E_iadd 8 dX12_twoOf_7 rfl ?_
    exact E_iret dX12_twoOf_8 rfl rfl w
theorem B_X12_worth_0 {g : PG} {d : Nat} {σ : PS} {Q : Int → PS → Prop} {x1 x2 x3 : Int}  (w : ∀ y1, y1 = w32 ((w32 (500 * x1)) + x2) → (XX g true (d + 1) P_X12_worth 12 [(2, 88), (0, x1), (9, 0), (0, x3), (0, 0), (0, y1)] [] 136 σ 136 Q)) : XX g true (d + 1) P_X12_worth 0 [(2, 88), (0, x1), (0, x2), (0, x3), (9, 0), (9, 0)] [] 136 σ 136 Q := by
  refine E_iconst 1 dX12_worth_0 (by decide) rfl ?_
  refine E_istore (ls' := [(2, 88), (0, x1), (0, x2), (0, x3), (0, 0), (9, 0)]) 3 dX12_worth_1 (by decide) rfl rfl ?_
  refine E_sipush 6 dX12_worth_3 (by decide) rfl ?_
  refine E_iload_n 7 dX12_worth_6 rfl rfl ?_
  refine E_imul 8 dX12_worth_7 rfl ?_
  refine E_iload_n 9 dX12_worth_8 rfl rfl ?_
  refine E_iadd 10 dX12_worth_9 rfl ?_
  refine E_top (fun y1 hy1 => ?_)
  have w := w y1 hy1
  refine E_istore (ls' := [(2, 88), (0, x1), (0, x2), (0, x3), (0, 0), (0, y1)]) 12 dX12_worth_10 (by decide) rfl rfl ?_
  refine XX.fg [2] [(2, 88), (0, x1), (9, 0), (0, x3), (0, 0), (0, y1)] rfl ?_
  with_reducible exact w
theorem B_X12_worth_12 {g : PG} {d : Nat} {σ : PS} {Q : Int → PS → Prop} {x1 x3 x4 x5 : Int}  (w : ((w32 ((w32 (500 * x1)) + x3) ≤ x5 → Q (σ 112 0) σ) ∧ (x5 < w32 ((w32 (500 * x1)) + x3) → (0 ≤ x5 ∧ x5 < 2000) ∧ ((σ 104 x5 = 0 → ((σ 104 x5 ≠ 0 → (0 ≤ σ 105 x5 ∧ σ 105 x5 < 12) ∧ (0 ≤ x4 ∧ x4 < 520) ∧ ∀ y4, y4 = w32 (x4 + 1) → (XX g true (d + 1) P_X12_worth 12 [(2, 88), (0, x1), (9, 0), (0, x3), (0, y4), (0, w32 (x5 + 1))] [] 136 (su σ 112 x4 (σ 111 (σ 105 x5))) 136 Q)) ∧ (σ 104 x5 = 0 → (0 ≤ x4 ∧ x4 < 520) ∧ ∀ y6, y6 = w32 (x4 + 1) → (XX g true (d + 1) P_X12_worth 12 [(2, 88), (0, x1), (9, 0), (0, x3), (0, y6), (0, w32 (x5 + 1))] [] 136 (su σ 112 x4 (σ 105 x5)) 136 Q)))) ∧ (σ 104 x5 ≠ 0 → ((σ 104 x5 ≠ 1 → ((σ 104 x5 ≠ 9 → ∀ y7, y7 = w32 (x4 - 1) → (0 ≤ w32 (y7 - 1) ∧ w32 (y7 - 1) < 520) ∧ (0 ≤ y7 ∧ y7 < 520) ∧ XX g true d P_X12_twoOf 0 [(2, 88), (0, σ 104 x5), (0, σ 112 (w32 (y7 - 1))), (0, σ 112 y7)] [] 136 σ 136 (fun r11 σ10 => (XX g true (d + 1) P_X12_worth 12 [(2, 88), (0, x1), (9, 0), (0, x3), (0, y7), (0, w32 (x5 + 1))] [] 136 (su σ10 112 (w32 (y7 - 1)) r11) 136 Q))) ∧ (σ 104 x5 = 9 → (0 ≤ w32 (x4 - 1) ∧ w32 (x4 - 1) < 520) ∧ (XX g true (d + 1) P_X12_worth 12 [(2, 88), (0, x1), (9, 0), (0, x3), (0, x4), (0, w32 (x5 + 1))] [] 136 (su σ 112 (w32 (x4 - 1)) (w32 (1 - (σ 112 (w32 (x4 - 1)))))) 136 Q)))) ∧ (σ 104 x5 = 1 → ((σ 104 x5 ≠ 0 → (0 ≤ σ 105 x5 ∧ σ 105 x5 < 12) ∧ (0 ≤ x4 ∧ x4 < 520) ∧ ∀ y15, y15 = w32 (x4 + 1) → (XX g true (d + 1) P_X12_worth 12 [(2, 88), (0, x1), (9, 0), (0, x3), (0, y15), (0, w32 (x5 + 1))] [] 136 (su σ 112 x4 (σ 111 (σ 105 x5))) 136 Q)) ∧ (σ 104 x5 = 0 → (0 ≤ x4 ∧ x4 < 520) ∧ ∀ y17, y17 = w32 (x4 + 1) → (XX g true (d + 1) P_X12_worth 12 [(2, 88), (0, x1), (9, 0), (0, x3), (0, y17), (0, w32 (x5 + 1))] [] 136 (su σ 112 x4 (σ 105 x5)) 136 Q)))))))))) : XX g true (d + 1) P_X12_worth 12 [(2, 88), (0, x1), (9, 0), (0, x3), (0, x4), (0, x5)] [] 136 σ 136 Q := by
  refine E_iload 14 dX12_worth_12 rfl rfl ?_
  refine E_sipush 17 dX12_worth_14 (by decide) rfl ?_
  refine E_iload_n 18 dX12_worth_17 rfl rfl ?_
  refine E_imul 19 dX12_worth_18 rfl ?_
  refine E_iload_n 20 dX12_worth_19 rfl rfl ?_
  refine E_iadd 21 dX12_worth_20 rfl ?_
  refine E_icmp_ge 24 176 dX12_worth_21 rfl rfl (fun h => ?_) (fun h => ?_)
  · have w := w.1 h
    refine E_aload_n 177 dX12_worth_176 rfl (ac_88.bnd) rfl ?_
    refine E_getL 180 dX12_worth_177 fl_X12_89 ac_88 rfl (by decide) lay_88_46 rfl ?_
    refine E_iconst 181 dX12_worth_180 (by decide) rfl ?_
    refine E_iald 182 dX12_worth_181 ac_112 (by decide) rfl ?_
    exact E_iret dX12_worth_182 rfl rfl w
  · have w := w.2 h
    refine E_aload_n 25 dX12_worth_24 rfl (ac_88.bnd) rfl ?_
    refine E_getL 28 dX12_worth_25 fl_X12_62 ac_88 rfl (by decide) lay_88_29 rfl ?_
    refine E_iload 30 dX12_worth_28 rfl rfl ?_
    obtain ⟨c1, w⟩ := w
    refine E_iald 31 dX12_worth_30 ac_104 c1 rfl ?_
    refine E_if_eq 34 45 dX12_worth_31 rfl rfl (fun h => ?_) (fun h => ?_)
    · have w := w.1 h
      refine E_aload_n 46 dX12_worth_45 rfl (ac_88.bnd) rfl ?_
      refine E_getL 49 dX12_worth_46 fl_X12_89 ac_88 rfl (by decide) lay_88_46 rfl ?_
      refine E_iload 51 dX12_worth_49 rfl rfl ?_
      refine E_aload_n 52 dX12_worth_51 rfl (ac_88.bnd) rfl ?_
      refine E_getL 55 dX12_worth_52 fl_X12_62 ac_88 rfl (by decide) lay_88_29 rfl ?_
      refine E_iload 57 dX12_worth_55 rfl rfl ?_
      refine E_iald 58 dX12_worth_57 ac_104 c1 rfl ?_
      refine E_if_ne 61 71 dX12_worth_58 rfl rfl (fun h => ?_) (fun h => ?_)
      · have w := w.1 h
        refine E_aload_n 72 dX12_worth_71 rfl (ac_88.bnd) rfl ?_
        refine E_getL 75 dX12_worth_72 fl_X12_86 ac_88 rfl (by decide) lay_88_45 rfl ?_
        refine E_aload_n 76 dX12_worth_75 rfl (ac_88.bnd) rfl ?_
        refine E_getL 79 dX12_worth_76 fl_X12_65 ac_88 rfl (by decide) lay_88_30 rfl ?_
        refine E_iload 81 dX12_worth_79 rfl rfl ?_
        refine E_iald 82 dX12_worth_81 ac_105 c1 rfl ?_
        obtain ⟨c2, w⟩ := w
        refine E_iald 83 dX12_worth_82 ac_111 c2 rfl ?_
        obtain ⟨c3, w⟩ := w
        refine E_iast 84 dX12_worth_83 ac_112 c3 rfl ?_
        refine E_iload 86 dX12_worth_84 rfl rfl ?_
        refine E_iconst 87 dX12_worth_86 (by decide) rfl ?_
        refine E_iadd 88 dX12_worth_87 rfl ?_
        refine E_top (fun y4 hy4 => ?_)
        have w := w y4 hy4
        refine E_istore (ls' := [(2, 88), (0, x1), (9, 0), (0, x3), (0, y4), (0, x5)]) 90 dX12_worth_88 (by decide) rfl rfl ?_
        refine E_goto 170 dX12_worth_90 rfl ?_
        refine E_iinc (ls' := [(2, 88), (0, x1), (9, 0), (0, x3), (0, y4), (0, w32 (x5 + 1))]) 173 dX12_worth_170 (by decide) rfl rfl rfl ?_
        refine E_goto 12 dX12_worth_173 rfl ?_
        with_reducible exact w
      · have w := w.2 h
        refine E_aload_n 62 dX12_worth_61 rfl (ac_88.bnd) rfl ?_
        refine E_getL 65 dX12_worth_62 fl_X12_65 ac_88 rfl (by decide) lay_88_30 rfl ?_
        refine E_iload 67 dX12_worth_65 rfl rfl ?_
        refine E_iald 68 dX12_worth_67 ac_105 c1 rfl ?_
        refine E_goto 83 dX12_worth_68 rfl ?_
        obtain ⟨c5, w⟩ := w
        refine E_iast 84 dX12_worth_83 ac_112 c5 rfl ?_
        refine E_iload 86 dX12_worth_84 rfl rfl ?_
        refine E_iconst 87 dX12_worth_86 (by decide) rfl ?_
        refine E_iadd 88 dX12_worth_87 rfl ?_
        refine E_top (fun y6 hy6 => ?_)
        have w := w y6 hy6
        refine E_istore (ls' := [(2, 88), (0, x1), (9, 0), (0, x3), (0, y6), (0, x5)]) 90 dX12_worth_88 (by decide) rfl rfl ?_
        refine E_goto 170 dX12_worth_90 rfl ?_
        refine E_iinc (ls' := [(2, 88), (0, x1), (9, 0), (0, x3), (0, y6), (0, w32 (x5 + 1))]) 173 dX12_worth_170 (by decide) rfl rfl rfl ?_
        refine E_goto 12 dX12_worth_173 rfl ?_
        with_reducible exact w
    · have w := w.2 h
      refine E_aload_n 35 dX12_worth_34 rfl (ac_88.bnd) rfl ?_
      refine E_getL 38 dX12_worth_35 fl_X12_62 ac_88 rfl (by decide) lay_88_29 rfl ?_
      refine E_iload 40 dX12_worth_38 rfl rfl ?_
      refine E_iald 41 dX12_worth_40 ac_104 c1 rfl ?_
      refine E_iconst 42 dX12_worth_41 (by decide) rfl ?_
      refine E_icmp_ne 45 93 dX12_worth_42 rfl rfl (fun h => ?_) (fun h => ?_)
      · have w := w.1 h
        refine E_aload_n 94 dX12_worth_93 rfl (ac_88.bnd) rfl ?_
        refine E_getL 97 dX12_worth_94 fl_X12_62 ac_88 rfl (by decide) lay_88_29 rfl ?_
        refine E_iload 99 dX12_worth_97 rfl rfl ?_
        refine E_iald 100 dX12_worth_99 ac_104 c1 rfl ?_
        refine E_bipush 102 dX12_worth_100 (by decide) rfl ?_
        refine E_icmp_ne 105 128 dX12_worth_102 rfl rfl (fun h => ?_) (fun h => ?_)
        · have w := w.1 h
          refine E_iload 130 dX12_worth_128 rfl rfl ?_
          refine E_iconst 131 dX12_worth_130 (by decide) rfl ?_
          refine E_isub 132 dX12_worth_131 rfl ?_
          refine E_top (fun y7 hy7 => ?_)
          have w := w y7 hy7
          refine E_istore (ls' := [(2, 88), (0, x1), (9, 0), (0, x3), (0, y7), (0, x5)]) 134 dX12_worth_132 (by decide) rfl rfl ?_
          refine E_aload_n 135 dX12_worth_134 rfl (ac_88.bnd) rfl ?_
          refine E_getL 138 dX12_worth_135 fl_X12_89 ac_88 rfl (by decide) lay_88_46 rfl ?_
          refine E_iload 140 dX12_worth_138 rfl rfl ?_
          refine E_iconst 141 dX12_worth_140 (by decide) rfl ?_
          refine E_isub 142 dX12_worth_141 rfl ?_
          refine E_aload_n 143 dX12_worth_142 rfl (ac_88.bnd) rfl ?_
          refine E_aload_n 144 dX12_worth_143 rfl (ac_88.bnd) rfl ?_
          refine E_getL 147 dX12_worth_144 fl_X12_62 ac_88 rfl (by decide) lay_88_29 rfl ?_
          refine E_iload 149 dX12_worth_147 rfl rfl ?_
          refine E_iald 150 dX12_worth_149 ac_104 c1 rfl ?_
          refine E_aload_n 151 dX12_worth_150 rfl (ac_88.bnd) rfl ?_
          refine E_getL 154 dX12_worth_151 fl_X12_89 ac_88 rfl (by decide) lay_88_46 rfl ?_
          refine E_iload 156 dX12_worth_154 rfl rfl ?_
          refine E_iconst 157 dX12_worth_156 (by decide) rfl ?_
          refine E_isub 158 dX12_worth_157 rfl ?_
          obtain ⟨c8, w⟩ := w
          refine E_iald 159 dX12_worth_158 ac_112 c8 rfl ?_
          refine E_aload_n 160 dX12_worth_159 rfl (ac_88.bnd) rfl ?_
          refine E_getL 163 dX12_worth_160 fl_X12_89 ac_88 rfl (by decide) lay_88_46 rfl ?_
          refine E_iload 165 dX12_worth_163 rfl rfl ?_
          obtain ⟨c9, w⟩ := w
          refine E_iald 166 dX12_worth_165 ac_112 c9 rfl ?_
          refine E_callV (as := [(0, σ 104 x5), (0, σ 112 (w32 (y7 - 1))), (0, σ 112 y7)]) 169 dX12_worth_166 cf_X12_twoOf mw_1572 mw_1574 mw_82 ac_88 (by decide) cl_X12 rfl rfl (Nat.le_of_ble_eq_true rfl) (Nat.le_of_ble_eq_true rfl) ⟨Nat.le_refl _, Nat.le_refl _⟩ rfl (w.mono (fun r11 σ10 w => ?_))
          show XX g true (d + 1) P_X12_worth 169 [(2, 88), (0, x1), (9, 0), (0, x3), (0, y7), (0, x5)] [(0, r11), (0, w32 (y7 - 1)), (2, 112)] 136 σ10 136 Q
          refine E_iast 170 dX12_worth_169 ac_112 c8 rfl ?_
          refine E_iinc (ls' := [(2, 88), (0, x1), (9, 0), (0, x3), (0, y7), (0, w32 (x5 + 1))]) 173 dX12_worth_170 (by decide) rfl rfl rfl ?_
          refine E_goto 12 dX12_worth_173 rfl ?_
          with_reducible exact w
        · have w := w.2 h
          refine E_aload_n 106 dX12_worth_105 rfl (ac_88.bnd) rfl ?_
          refine E_getL 109 dX12_worth_106 fl_X12_89 ac_88 rfl (by decide) lay_88_46 rfl ?_
          refine E_iload 111 dX12_worth_109 rfl rfl ?_
          refine E_iconst 112 dX12_worth_111 (by decide) rfl ?_
          refine E_isub 113 dX12_worth_112 rfl ?_
          refine E_iconst 114 dX12_worth_113 (by decide) rfl ?_
          refine E_aload_n 115 dX12_worth_114 rfl (ac_88.bnd) rfl ?_
          refine E_getL 118 dX12_worth_115 fl_X12_89 ac_88 rfl (by decide) lay_88_46 rfl ?_
          refine E_iload 120 dX12_worth_118 rfl rfl ?_
          refine E_iconst 121 dX12_worth_120 (by decide) rfl ?_
          refine E_isub 122 dX12_worth_121 rfl ?_
          obtain ⟨c12, w⟩ := w
          refine E_iald 123 dX12_worth_122 ac_112 c12 rfl ?_
          refine E_isub 124 dX12_worth_123 rfl ?_
          refine E_iast 125 dX12_worth_124 ac_112 c12 rfl ?_
          refine E_goto 170 dX12_worth_125 rfl ?_
          refine E_iinc (ls' := [(2, 88), (0, x1), (9, 0), (0, x3), (0, x4), (0, w32 (x5 + 1))]) 173 dX12_worth_170 (by decide) rfl rfl rfl ?_
          refine E_goto 12 dX12_worth_173 rfl ?_
          with_reducible exact w
      · have w := w.2 h
        refine E_aload_n 46 dX12_worth_45 rfl (ac_88.bnd) rfl ?_
        refine E_getL 49 dX12_worth_46 fl_X12_89 ac_88 rfl (by decide) lay_88_46 rfl ?_
        refine E_iload 51 dX12_worth_49 rfl rfl ?_
        refine E_aload_n 52 dX12_worth_51 rfl (ac_88.bnd) rfl ?_
        refine E_getL 55 dX12_worth_52 fl_X12_62 ac_88 rfl (by decide) lay_88_29 rfl ?_
        refine E_iload 57 dX12_worth_55 rfl rfl ?_
        refine E_iald 58 dX12_worth_57 ac_104 c1 rfl ?_
        refine E_if_ne 61 71 dX12_worth_58 rfl rfl (fun h => ?_) (fun h => ?_)
        · have w := w.1 h
          refine E_aload_n 72 dX12_worth_71 rfl (ac_88.bnd) rfl ?_
          refine E_getL 75 dX12_worth_72 fl_X12_86 ac_88 rfl (by decide) lay_88_45 rfl ?_
          refine E_aload_n 76 dX12_worth_75 rfl (ac_88.bnd) rfl ?_
          refine E_getL 79 dX12_worth_76 fl_X12_65 ac_88 rfl (by decide) lay_88_30 rfl ?_
          refine E_iload 81 dX12_worth_79 rfl rfl ?_
          refine E_iald 82 dX12_worth_81 ac_105 c1 rfl ?_
          obtain ⟨c13, w⟩ := w
          refine E_iald 83 dX12_worth_82 ac_111 c13 rfl ?_
          obtain ⟨c14, w⟩ := w
          refine E_iast 84 dX12_worth_83 ac_112 c14 rfl ?_
          refine E_iload 86 dX12_worth_84 rfl rfl ?_
          refine E_iconst 87 dX12_worth_86 (by decide) rfl ?_
          refine E_iadd 88 dX12_worth_87 rfl ?_
          refine E_top (fun y15 hy15 => ?_)
          have w := w y15 hy15
          refine E_istore (ls' := [(2, 88), (0, x1), (9, 0), (0, x3), (0, y15), (0, x5)]) 90 dX12_worth_88 (by decide) rfl rfl ?_
          refine E_goto 170 dX12_worth_90 rfl ?_
          refine E_iinc (ls' := [(2, 88), (0, x1), (9, 0), (0, x3), (0, y15), (0, w32 (x5 + 1))]) 173 dX12_worth_170 (by decide) rfl rfl rfl ?_
          refine E_goto 12 dX12_worth_173 rfl ?_
          with_reducible exact w
        · have w := w.2 h
          refine E_aload_n 62 dX12_worth_61 rfl (ac_88.bnd) rfl ?_
          refine E_getL 65 dX12_worth_62 fl_X12_65 ac_88 rfl (by decide) lay_88_30 rfl ?_
          refine E_iload 67 dX12_worth_65 rfl rfl ?_
          refine E_iald 68 dX12_worth_67 ac_105 c1 rfl ?_
          refine E_goto 83 dX12_worth_68 rfl ?_
          obtain ⟨c16, w⟩ := w
          refine E_iast 84 dX12_worth_83 ac_112 c16 rfl ?_
          refine E_iload 86 dX12_worth_84 rfl rfl ?_
          refine E_iconst 87 dX12_worth_86 (by decide) rfl ?_
          refine E_iadd 88 dX12_worth_87 rfl ?_
          refine E_top (fun y17 hy17 => ?_)
          have w := w y17 hy17
          refine E_istore (ls' := [(2, 88), (0, x1), (9, 0), (0, x3), (0, y17), (0, x5)]) 90 dX12_worth_88 (by decide) rfl rfl ?_
          refine E_goto 170 dX12_worth_90 rfl ?_
          refine E_iinc (ls' := [(2, 88), (0, x1), (9, 0), (0, x3), (0, y17), (0, w32 (x5 + 1))]) 173 dX12_worth_170 (by decide) rfl rfl rfl ?_
          refine E_goto 12 dX12_worth_173 rfl ?_
          with_reducible exact w
