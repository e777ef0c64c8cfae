/-! THE LAW: both objects are made -/
theorem law_entry {g : PG} {d : Nat} {Q : Int → PS → Prop} (w : XX g true (d + 5) P_L_law 18 [(2, 100002), (2, 0), (2, 88), (0, 0)] [] 136 KI 136 Q) : XX g false (d + 5) P_L_law 0 [(2, 100002), (9, 0), (9, 0), (9, 0)] [] 0 K0 136 Q := by
  refine E_new (C0 := RX11) 3 dL_law_0 (rfl : kd 0 = (11, 15)) (by decide) rfl cl_X11 mw_130 mw_131 mw_108 (by decide) rfl ?_
  refine E_dup 4 dL_law_3 n21 rfl ?_
  refine E_callI (as := []) (N1 := 88) 7 dL_law_4 cf_X11_init rfl rfl (Or.inl mw_132) mw_133 (at_0 (by decide)) rfl rfl (Nat.le_of_ble_eq_true rfl) (Nat.le_of_ble_eq_true rfl) (by decide) rfl (C1_X11_init ?_)
  show XX g false (d + 5) P_L_law 7 [(2, 100002), (9, 0), (9, 0), (9, 0)] [(2, 0)] 88 K253 136 Q
  refine E_astore_n (ls' := [(2, 100002), (2, 0), (9, 0), (9, 0)]) 8 dL_law_7 (by decide) rfl (ac_0.bnd) rfl ?_
  refine E_new (C0 := RX12) 11 dL_law_8 (rfl : kd 88 = (12, 79)) (by decide) rfl cl_X12 mw_1111 mw_1112 mw_121 (by decide) rfl ?_
  refine E_dup 12 dL_law_11 n21 rfl ?_
  refine E_callI (as := []) (N1 := 136) 15 dL_law_12 cf_X12_init rfl rfl (Or.inl mw_1113) mw_1114 (at_88 (by decide)) rfl rfl (Nat.le_of_ble_eq_true rfl) (Nat.le_of_ble_eq_true rfl) (by decide) rfl (C28_X12_init ?_)
  show XX g false (d + 5) P_L_law 15 [(2, 100002), (2, 0), (9, 0), (9, 0)] [(2, 88)] 136 K489 136 Q
  refine E_mode KI_lay ?_
  refine E_astore_n (ls' := [(2, 100002), (2, 0), (2, 88), (9, 0)]) 16 dL_law_15 (by decide) rfl (ac_88.bnd) rfl ?_
  refine E_iconst 17 dL_law_16 (by decide) rfl ?_
  refine E_istore_n (ls' := [(2, 100002), (2, 0), (2, 88), (0, 0)]) 18 dL_law_17 (by decide) rfl rfl ?_
  exact w
