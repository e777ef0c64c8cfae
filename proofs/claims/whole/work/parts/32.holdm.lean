/-! ROWS THAT HOLD, counted: the model -/
section PHOLDM
variable {g : PG} {d : Nat} {Q : Int → PS → Prop}
theorem s_holdM {k : Int} {n : Nat} {E : Int → Int} {σ : PS} (hE : BrkM E σ) (hs : σ 88 2 = n) (hn : 1 ≤ n ∧ n ≤ 60) (w : ∀ σ', eqm [125, 126] [0] σ σ' → Q (if 0 ≤ k ∧ k ≤ n then holdF E n k else -1) σ') : XX g true (d + 2) P_X12_hold 0 [(2, 88), (0, k), (9, 0), (9, 0), (9, 0), (9, 0), (9, 0)] [] 136 σ 136 Q := by
  have hx0 : eqm [125, 126] [0] σ (su σ 88 0 0) := eqm.rf.s8 (by decide)
  have hE0 : BrkM E (su σ 88 0 0) := BrkM_same hE (su_ne (Or.inr (by decide))) (fun j => su_ne (Or.inl (by decide))) (fun j => su_ne (Or.inl (by decide))) (fun j => su_ne (Or.inl (by decide))) (fun j => su_ne (Or.inl (by decide)))
  have hs0 : su σ 88 0 0 88 2 = n := by rw [su_ne (Or.inr (by decide))]; exact hs
  refine B_X12_hold_0 ?_
  obtain ⟨σ0, e0⟩ : ∃ σ0, σ0 = su σ 88 0 0 := ⟨_, rfl⟩
  rw [← e0] at hx0 hE0 hs0 ⊢
  rw [hs]
  refine s_isIn ?_
  by_cases hk : 0 ≤ k ∧ k ≤ n
  case neg =>
    rw [if_neg hk]
    have h9 := w σ0 hx0
    rw [if_neg hk] at h9
    exact ⟨fun z => absurd rfl z, fun _ => h9⟩
  rw [if_pos hk] at w ⊢
  refine ⟨fun _ => ?_, fun z => by omega⟩
  have w : ∀ σ', eqx [125, 126] σ0 σ' → Q (holdF E n k) σ' := fun σ' hx => w σ' (hx0.x hx (by decide) (by decide))
  -- the sum
  have last : ∀ (H : PS) (m : Nat) (s acc : Int) (σ1 : PS), 0 ≤ s → s + m = 128 → (∀ s : Int, 0 ≤ s → s < 128 → σ1 125 (128 * k + s) = H k s) → Q (sumL (fun s => H k s) m s acc) σ1 → XX g true (d + 2) P_X12_hold 261 [(2, 88), (0, k), (1, acc), (9, 0), (0, s), (9, 0), (9, 0)] [] 136 σ1 136 Q := by
    intro H m
    induction m with
    | zero =>
      intro s acc σ1 h0 hm hH w2
      exact B_X12_hold_261 ⟨fun _ => w2, fun h => by omega⟩
    | succ m ih =>
      intro s acc σ1 h0 hm hH w2
      have ei : w32 ((w32 (128 * k)) + s) = 128 * k + s := by rw [w32_of (x := 128 * k) (by omega) (by omega), w32_of (by omega) (by omega)]
      refine B_X12_hold_261 ⟨fun h => by omega, fun _ => ?_⟩
      rw [ei, w32_of (x := s + 1) (by omega) (by omega)]
      refine ⟨by omega, fun y2 h2 => ?_⟩
      rw [hH s h0 (by omega)] at h2
      rw [sumL_succ, ← h2] at w2
      exact ih (s + 1) y2 σ1 (by omega) (by omega) hH w2
  -- all over
  have copy : ∀ (m : Nat) (s : Int) (p : Nat) (H : PS) (σ1 : PS), 0 ≤ s → s + m = 7808 → eqx [125, 126] σ0 σ1 → agH σ1 126 60 H → (∀ t, 0 ≤ t → t < s → σ1 125 t = σ1 126 t) → (∀ σ2, eqx [125, 126] σ0 σ2 → agH σ2 125 60 H → XX g true (d + 2) P_X12_hold 53 [(2, 88), (0, k), (0, w32 ((p : Int) + 1)), (9, 0), (9, 0), (9, 0), (9, 0)] [] 136 σ2 136 Q) → XX g true (d + 2) P_X12_hold 225 [(2, 88), (0, k), (0, (p : Int)), (0, s), (9, 0), (9, 0), (9, 0)] [] 136 σ1 136 Q := by
    intro m
    induction m with
    | zero =>
      intro s p H σ1 h0 hm hx hn1 hn2 w2
      exact B_X12_hold_225 ⟨fun _ => w2 σ1 hx fun c t a1 a2 a3 a4 => (hn2 _ (by omega) (by omega)).trans (hn1 c t a1 a2 a3 a4), fun h => by omega⟩
    | succ m ih =>
      intro s p H σ1 h0 hm hx hn1 hn2 w2
      refine B_X12_hold_225 ⟨fun h => by omega, fun h => ⟨by omega, ?_⟩⟩
      rw [w32_of (x := s + 1) (by omega) (by omega)]
      refine ih (s + 1) p H _ (by omega) (by omega) (hx.su (by decide)) (fun c t a1 a2 a3 a4 => ?_) (fun t t0 t1 => ?_) w2
      · rw [su_ne (Or.inl (by decide))]; exact hn1 c t a1 a2 a3 a4
      · by_cases e : t = s
        · subst e; rw [su_eq, su_ne (Or.inl (by decide))]
        · rw [su_ne (Or.inr e), su_ne (Or.inl (by decide))]; exact hn2 t t0 (by omega)
  -- a share
  have share : ∀ (p : Nat) (c s g0 b c1 : Int) (v : Int) (nx : PS) (σ1 : PS), p < n → 0 ≤ c ∧ c ≤ p → 0 ≤ s ∧ s < setsN p → g0 = 0 ∨ g0 = 1 → b = 2 * s + g0 → c1 = c + g0 → σ1 125 (128 * c + s) = v → eqx [125, 126] σ0 σ1 → agH σ1 126 60 nx → (∀ σ2, eqx [126] σ1 σ2 → agH σ2 126 60 (hshare E (imin ((p : Int) + 1) 8) v b c1 (b % 128) nx) → XX g true (d + 2) P_X12_hold 130 [(2, 88), (0, k), (0, (p : Int)), (0, c), (0, s), (0, g0 + 1), (9, 0)] [] 136 σ2 136 Q) → XX g true (d + 2) P_X12_hold 130 [(2, 88), (0, k), (0, (p : Int)), (0, c), (0, s), (0, g0), (9, 0)] [] 136 σ1 136 Q := by
    intro p c s g0 b c1 v nx σ1 hp hc hs hg hb hc1 hv hx hn1 w2
    have h128 := setsN_128 p
    have eb : ior (ishl s 1) g0 = b := by
      rw [ishl1 hs.1 (by omega)]
      rcases hg with rfl | rfl
      · rw [ior0 (by omega) (by omega)]; omega
      · rw [ior1 (by omega) (by omega)]; omega
    have ew : w32 (g0 + 1) = g0 + 1 := w32_of (by omega) (by omega)
    have ei : w32 ((w32 (128 * c)) + s) = 128 * c + s := by rw [w32_of (x := 128 * c) (by omega) (by omega), w32_of (by omega) (by omega)]
    have et : w32 ((w32 (128 * (w32 (c + g0)))) + (b % 128)) = 128 * c1 + b % 128 := by rw [w32_of (x := c + g0) (by omega) (by omega), w32_of (x := 128 * (c + g0)) (by omega) (by omega), w32_of (by omega) (by omega), hc1]
    have hlt : b.toNat < 2 ^ ((p : Int) + 1).toNat := by
      rw [show ((p : Int) + 1).toNat = p + 1 by omega]
      have := setsN_lt (p := p) (s := s.toNat) (by omega)
      omega
    refine B_X12_hold_130 ⟨fun z => by omega, fun _ => ?_⟩
    rw [eb, iand127 (by omega) (by omega), ew, w32_of (x := (p : Int) + 1) (by omega) (by omega), et, ei]
    unfold hshare at w2
    refine s_metM (hE0.x hx (by decide) (by decide) (by decide) (by decide) (by decide)) (by omega) (by omega) ⟨by omega, by omega⟩ hlt (fun hm => ⟨fun z => by omega, fun _ => ?_⟩) (fun hm => ⟨fun _ y3 h3 => ?_, fun z => absurd rfl z⟩)
    · rw [if_pos hm] at w2
      exact w2 σ1 eqx.rf hn1
    · rw [if_neg hm] at w2
      subst h3
      refine ⟨by omega, by omega, ?_⟩
      rw [hv, hn1 c1 _ (by omega) (by omega) (by omega) (by omega)]
      exact w2 _ (eqx.rf.su (by decide)) (agH_su hn1 (by omega) (by omega))
  -- a row
  have row : ∀ (p : Nat) (H : PS) (c : Int), p < n → 0 ≤ c ∧ c ≤ p → zeroTo (setsN p) (H c) → ∀ (m : Nat) (s : Int) (nx : PS) (σ1 : PS), 0 ≤ s → s + m = 128 → eqx [125, 126] σ0 σ1 → agH σ1 125 60 H → agH σ1 126 60 nx → (∀ σ2, eqx [125, 126] σ0 σ2 → agH σ2 125 60 H → agH σ2 126 60 (holdR E (imin ((p : Int) + 1) 8) H c m s nx) → XX g true (d + 2) P_X12_hold 85 [(2, 88), (0, k), (0, (p : Int)), (0, w32 (c + 1)), (9, 0), (9, 0), (9, 0)] [] 136 σ2 136 Q) → XX g true (d + 2) P_X12_hold 98 [(2, 88), (0, k), (0, (p : Int)), (0, c), (0, s), (9, 0), (9, 0)] [] 136 σ1 136 Q := by
    intro p H c hp hc hz m
    induction m with
    | zero =>
      intro s nx σ1 h0 hm hx hH hn1 w2
      exact B_X12_hold_98 ⟨fun _ => w2 σ1 hx hH hn1, fun h => by omega⟩
    | succ m ih =>
      intro s nx σ1 h0 hm hx hH hn1 w2
      have es : w32 (s + 1) = s + 1 := w32_of (by omega) (by omega)
      have ei : w32 ((w32 (128 * c)) + s) = 128 * c + s := by rw [w32_of (x := 128 * c) (by omega) (by omega), w32_of (by omega) (by omega)]
      have oH := hH c s hc.1 (by omega) h0 (by omega)
      rw [holdR_succ] at w2
      unfold holdStep at w2
      refine B_X12_hold_98 ⟨fun h => by omega, fun h => ?_⟩
      rw [ei, oH, es]
      refine ⟨by omega, fun hv => ?_, fun hv => ?_⟩
      · rw [if_neg hv] at w2
        have hsK : s < setsN p := Classical.byContradiction fun z => hv (hz s (by omega) (by omega))
        have o5 : ∀ {σ2 σ3 : PS}, eqx [126] σ2 σ3 → ∀ j, σ3 125 j = σ2 125 j := fun h j => h 125 (by decide) j
        refine share p c s 0 (2 * s) c (H c s) nx σ1 hp hc ⟨h0, hsK⟩ (Or.inl rfl) (by omega) (by omega) oH hx hn1 fun σ2 hx2 hn2 => ?_
        rw [show (0 : Int) + 1 = 1 by decide]
        refine share p c s 1 (2 * s + 1) (c + 1) (H c s) _ σ2 hp hc ⟨h0, hsK⟩ (Or.inr rfl) (by omega) (by omega) (by rw [o5 hx2]; exact oH) (hx.tr (hx2.mono (by decide))) hn2 fun σ3 hx3 hn3 => ?_
        refine B_X12_hold_130 ⟨fun _ => ?_, fun z => by omega⟩
        rw [es]
        refine ih (s + 1) _ σ3 (by omega) (by omega) ((hx.tr (hx2.mono (by decide))).tr (hx3.mono (by decide))) (fun c2 s2 a1 a2 a3 a4 => ?_) hn3 w2
        rw [o5 hx3, o5 hx2]
        exact hH c2 s2 a1 a2 a3 a4
      · rw [if_pos hv] at w2
        exact ih (s + 1) nx σ1 (by omega) (by omega) hx hH hn1 w2
  -- the rows of a place
  have rows : ∀ (p : Nat) (H : PS), p < n → (∀ c, zeroTo (setsN p) (H c)) → ∀ (m : Nat) (c : Int) (nx : PS) (σ1 : PS), 0 ≤ c → c + m = imin p k + 1 → eqx [125, 126] σ0 σ1 → agH σ1 125 60 H → agH σ1 126 60 nx → (∀ σ2, eqx [125, 126] σ0 σ2 → agH σ2 126 60 (holdRs E (imin ((p : Int) + 1) 8) H m c nx) → XX g true (d + 2) P_X12_hold 225 [(2, 88), (0, k), (0, (p : Int)), (0, 0), (9, 0), (9, 0), (9, 0)] [] 136 σ2 136 Q) → XX g true (d + 2) P_X12_hold 85 [(2, 88), (0, k), (0, (p : Int)), (0, c), (9, 0), (9, 0), (9, 0)] [] 136 σ1 136 Q := by
    intro p H hp hz m
    have hik : (imin (p : Int) k = p ∧ (p : Int) ≤ k) ∨ (imin (p : Int) k = k ∧ k ≤ p) := by unfold imin; split <;> omega
    induction m with
    | zero =>
      intro c nx σ1 h0 hm hx hH hn1 w2
      refine B_X12_hold_85 ⟨fun _ => w2 σ1 hx hn1, fun h => ⟨fun _ => w2 σ1 hx hn1, fun h2 => by omega⟩⟩
    | succ m ih =>
      intro c nx σ1 h0 hm hx hH hn1 w2
      rw [holdRs_succ] at w2
      refine B_X12_hold_85 ⟨fun h => by omega, fun _ => ⟨fun h => by omega, fun _ => ?_⟩⟩
      refine row p H c hp ⟨h0, by omega⟩ (hz c) 128 0 nx σ1 (by omega) (by omega) hx hH hn1 fun σ2 hx2 hH2 hn2 => ?_
      rw [w32_of (by omega) (by omega)]
      exact ih (c + 1) _ σ2 (by omega) (by omega) hx2 hH2 hn2 w2
  -- a place: all is 0
  have clear : ∀ (p : Nat) (H : PS), ∀ (m : Nat) (s : Int) (σ1 : PS), 0 ≤ s → s + m = 7808 → eqx [125, 126] σ0 σ1 → agH σ1 125 60 H → (∀ t : Int, 0 ≤ t → t < s → σ1 126 t = 0) → (∀ σ2, eqx [125, 126] σ0 σ2 → agH σ2 125 60 H → agH σ2 126 60 (fun _ _ => 0) → XX g true (d + 2) P_X12_hold 85 [(2, 88), (0, k), (0, (p : Int)), (0, 0), (9, 0), (9, 0), (9, 0)] [] 136 σ2 136 Q) → XX g true (d + 2) P_X12_hold 63 [(2, 88), (0, k), (0, (p : Int)), (0, s), (9, 0), (9, 0), (9, 0)] [] 136 σ1 136 Q := by
    intro p H m
    induction m with
    | zero =>
      intro s σ1 h0 hm hx hH hz w2
      exact B_X12_hold_63 ⟨fun _ => w2 σ1 hx hH fun c t a1 a2 a3 a4 => hz _ (by omega) (by omega), fun h => by omega⟩
    | succ m ih =>
      intro s σ1 h0 hm hx hH hz w2
      refine B_X12_hold_63 ⟨fun h => by omega, fun h => ⟨by omega, ?_⟩⟩
      rw [w32_of (x := s + 1) (by omega) (by omega)]
      refine ih (s + 1) _ (by omega) (by omega) (hx.su (by decide)) (fun c t a1 a2 a3 a4 => ?_) (fun t t0 t1 => ?_) w2
      · rw [su_ne (Or.inl (by decide))]; exact hH c t a1 a2 a3 a4
      · by_cases e : t = s
        · subst e; exact su_eq
        · rw [su_ne (Or.inr e)]; exact hz t t0 (by omega)
  have places : ∀ (m p : Nat) (H : PS) (σ1 : PS), p + m = n → eqx [125, 126] σ0 σ1 → agH σ1 125 60 H → (∀ c, zeroTo (setsN p) (H c)) → holdsR E k m p H = holdsR E k n 0 hold0 → XX g true (d + 2) P_X12_hold 53 [(2, 88), (0, k), (0, (p : Int)), (9, 0), (9, 0), (9, 0), (9, 0)] [] 136 σ1 136 Q := by
    intro m
    induction m with
    | zero =>
      intro p H σ1 hp hx hH hz hfin
      have o : σ1 88 2 = n := by rw [hx 88 (by decide)]; exact hs0
      refine B_X12_hold_53 ⟨fun _ => ?_, fun h => by rw [o] at h; omega⟩
      have e : H = holdsR E k n 0 hold0 := hfin
      refine last H 128 0 0 σ1 (by omega) (by omega) (fun s s0 s1 => hH k s (by omega) (by omega) s0 s1) ?_
      have h9 := w σ1 hx
      unfold holdF at h9
      rw [← e] at h9
      exact h9
    | succ m ih =>
      intro p H σ1 hp hx hH hz hfin
      have o : σ1 88 2 = n := by rw [hx 88 (by decide)]; exact hs0
      rw [holdsR_succ] at hfin
      refine B_X12_hold_53 ⟨fun h => by rw [o] at h; omega, fun _ => ?_⟩
      refine clear p H 7808 0 σ1 (by omega) (by omega) hx hH (fun t t0 t1 => by omega) fun σ2 hx2 hH2 hn2 => ?_
      have hik : (imin (p : Int) k = p ∧ (p : Int) ≤ k) ∨ (imin (p : Int) k = k ∧ k ≤ p) := by unfold imin; split <;> omega
      refine rows p H (by omega) hz (imin (p : Int) k + 1).toNat 0 _ σ2 (by omega) (by omega) hx2 hH2 hn2 fun σ3 hx3 hn3 => ?_
      refine copy 7808 0 p _ σ3 (by omega) (by omega) hx3 hn3 (fun t t0 t1 => by omega) fun σ4 hx4 hn4 => ?_
      rw [w32_of (by omega) (by omega)]
      exact ih (p + 1) _ σ4 (by omega) hx4 hn4 (fun c => holdRs_zero hz (setsN_step p) fun _ _ _ => rfl) hfin
  have begin_ : ∀ (m : Nat) (s : Int) (σ1 : PS), 0 ≤ s → s + m = 7808 → eqx [125, 126] σ0 σ1 → (∀ t : Int, 0 ≤ t → t < s → σ1 125 t = 0) → XX g true (d + 2) P_X12_hold 24 [(2, 88), (0, k), (0, s), (9, 0), (9, 0), (9, 0), (9, 0)] [] 136 σ1 136 Q := by
    intro m
    induction m with
    | zero =>
      intro s σ1 h0 hm hx hz
      refine B_X12_hold_24 ⟨fun _ => ?_, fun h => by omega⟩
      refine places n 0 hold0 _ (by omega) (hx.su (by decide)) (fun c t a1 a2 a3 a4 => ?_) (fun c t t0 t1 => ?_) rfl
      · unfold hold0
        by_cases e : c = 0 ∧ t = 0
        · rw [if_pos e, e.1, e.2, show (128 * 0 + 0 : Int) = 0 by decide, su_eq]
        · rw [if_neg e, su_ne (Or.inr (by omega))]; exact hz _ (by omega) (by omega)
      · have : setsN 0 = 1 := rfl
        unfold hold0
        rw [if_neg (by omega)]
    | succ m ih =>
      intro s σ1 h0 hm hx hz
      refine B_X12_hold_24 ⟨fun h => by omega, fun h => ⟨by omega, ?_⟩⟩
      rw [w32_of (x := s + 1) (by omega) (by omega)]
      refine ih (s + 1) _ (by omega) (by omega) (hx.su (by decide)) fun t t0 t1 => ?_
      by_cases e : t = s
      · subst e; exact su_eq
      · rw [su_ne (Or.inr e)]; exact hz t t0 (by omega)
  exact begin_ 7808 0 σ0 (by omega) (by omega) eqx.rf fun t t0 t1 => by omega
end PHOLDM
