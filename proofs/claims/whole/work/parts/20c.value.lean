section PEVAL
variable {g : PG} {d : Nat} {Q : Int → PS → Prop}
def symOf (op : Int) : Int := -(partOf op 0)
/-- a step of two: the class at 138 -/
theorem s_v138 {op q b i m x y c : Int} {σ : PS} (hq : LinAt q) (hop : (op = 2 ∧ c = 43) ∨ (op = 3 ∧ c = 45) ∨ (op = 4 ∧ c = 42) ∨ (op = 5 ∧ c = 47) ∨ (op = 6 ∧ c = 60) ∨ (op = 7 ∧ c = 61) ∨ (op = 8 ∧ c = 62) ∨ (op = 10 ∧ c = 259) ∨ (op = 11 ∧ c = 260)) (hm : 0 ≤ m ∧ m < 60) (hx : σ 69 m = x) (hy : σ 69 (m + 1) = y) (h5 : op = 5 → y ≠ 0) (h10 : (op = 10 ∨ op = 11) → (y = 0 ∨ y = 1) ∧ (x = 0 ∨ x = 1))
    (fin : XX g true d P_X0_valueOf 436 [(2, 67), (2, q), (9, 0), (0, b), (0, m + 1), (0, i), (9, 0), (9, 0), (9, 0), (9, 0)] [] 136 (su σ 69 m (twoF op x y)) 136 Q) : XX g true d P_X0_valueOf 138 [(2, 67), (2, q), (9, 0), (0, b), (0, m + 2), (0, i), (0, -c), (9, 0), (9, 0), (9, 0)] [] 136 σ 136 Q := by
  have e3 : w32 (m + 2 + -1) = m + 1 := by rw [w32_of (by omega) (by omega)]; omega
  have e4 : w32 (m + 1 - 1) = m := by rw [w32_of (by omega) (by omega)]; omega
  have e6 : w32 (- -c) = c := by rw [w32_of (by omega) (by omega)]; omega
  refine B_X0_valueOf_138 hq ⟨fun z => by omega, fun _ => ⟨fun _ => ?_, fun z => by omega⟩⟩
  rw [e3, e4, e6, hx, hy]
  refine ⟨by omega, fun y2 g2 => ⟨by omega, fun y4 g4 => ?_⟩⟩
  rw [g2, g4]
  clear g2 g4 y2 y4 e3 e4 e6
  unfold twoF at fin
  rcases hop with ⟨rfl, rfl⟩ | ⟨rfl, rfl⟩ | ⟨rfl, rfl⟩ | ⟨rfl, rfl⟩ | ⟨rfl, rfl⟩ | ⟨rfl, rfl⟩ | ⟨rfl, rfl⟩ | ⟨rfl, rfl⟩ | ⟨rfl, rfl⟩
  · exact ⟨fun z => (by omega), fun _ => fin, fun z => (by omega), fun z => (by omega), fun z => (by omega), fun z => (by omega), fun z => (by omega), fun z => (by omega), fun z => (by omega)⟩
  · exact ⟨fun z => (by omega), fun z => (by omega), fun _ => fin, fun z => (by omega), fun z => (by omega), fun z => (by omega), fun z => (by omega), fun z => (by omega), fun z => (by omega)⟩
  · exact ⟨fun _ => fin, fun z => (by omega), fun z => (by omega), fun z => (by omega), fun z => (by omega), fun z => (by omega), fun z => (by omega), fun z => (by omega), fun z => (by omega)⟩
  · have h0 := h5 rfl
    exact ⟨fun z => (by omega), fun z => (by omega), fun z => (by omega), fun _ => ⟨fun _ => ⟨h0, B_X0_valueOf_330 hq fin⟩, fun z => absurd z h0⟩, fun z => (by omega), fun z => (by omega), fun z => (by omega), fun z => (by omega), fun z => (by omega)⟩
  · refine ⟨fun z => (by omega), fun z => (by omega), fun z => (by omega), fun z => (by omega), fun _ => ⟨fun z => B_X0_valueOf_354 hq ?_, fun z => B_X0_valueOf_354 hq ?_⟩, fun z => (by omega), fun z => (by omega), fun z => (by omega), fun z => (by omega)⟩
    · have e : ¬ x < y := by omega
      simpa only [Int.reduceEq, if_false, if_true, e] using fin
    · simpa only [Int.reduceEq, if_false, if_true, z] using fin
  · refine ⟨fun z => (by omega), fun z => (by omega), fun z => (by omega), fun z => (by omega), fun z => (by omega), fun _ => ⟨fun z => B_X0_valueOf_378 hq ?_, fun z => B_X0_valueOf_378 hq ?_⟩, fun z => (by omega), fun z => (by omega), fun z => (by omega)⟩
    · simpa only [Int.reduceEq, if_false, if_true, z] using fin
    · simpa only [Int.reduceEq, if_false, if_true, z] using fin
  · refine ⟨fun z => (by omega), fun z => (by omega), fun z => (by omega), fun z => (by omega), fun z => (by omega), fun z => (by omega), fun _ => ⟨fun z => B_X0_valueOf_402 hq ?_, fun z => B_X0_valueOf_402 hq ?_⟩, fun z => (by omega), fun z => (by omega)⟩
    · have e : ¬ y < x := by omega
      simpa only [Int.reduceEq, if_false, if_true, e] using fin
    · simpa only [Int.reduceEq, if_false, if_true, z] using fin
  · obtain ⟨y01, x01⟩ := h10 (Or.inl rfl)
    have e := (iand01 x01 y01).1
    unfold twoF at e
    refine ⟨fun z => (by omega), fun z => (by omega), fun z => (by omega), fun z => (by omega), fun z => (by omega), fun z => (by omega), fun z => (by omega), fun z => ?_, fun z => (by omega)⟩
    rw [e]; exact fin
  · obtain ⟨y01, x01⟩ := h10 (Or.inr rfl)
    have e := (iand01 x01 y01).2
    unfold twoF at e
    refine ⟨fun z => (by omega), fun z => (by omega), fun z => (by omega), fun z => (by omega), fun z => (by omega), fun z => (by omega), fun z => (by omega), fun z => (by omega), fun z => ?_⟩
    rw [e]; exact fin
/-- the class's stack machine, over the same code in its own words -/
theorem s_valueOf_loop {q b : Int} {σ0 : PS} {okn : Int → Bool} {nm op ar : Int → Int} {t : Nat} (hq : LinAt q) (hb : 0 ≤ b ∧ b ≤ 500) (hcode : ∀ i, 0 ≤ i → i < b → σ0 (q + 1) i = partOf (op i) (ar i)) (hnm : ∀ a, okn a = true → 0 ≤ a → a < 12 → σ0 68 (nmap a) = nm a) :
    ∀ (n : Nat) (i : Int) (vs : List Int) (ts : List Nat) (σ : PS), 0 ≤ i → i + n = b → eqx [69] σ0 σ → stk (σ 69) vs → tyl ts vs → chkR okn op ar n i ts = some [t] →
      (∀ σ', eqx [69] σ0 σ' → Q (hdI (evR nm op ar n i vs)) σ') → XX g true d P_X0_valueOf 13 [(2, 67), (2, q), (9, 0), (0, b), (0, (vs.length : Int)), (0, i), (9, 0), (9, 0), (9, 0), (9, 0)] [] 136 σ 136 Q := by
  intro n
  induction n with
  | zero =>
    intro i vs ts σ h0 hi he hs ht hc w
    refine B_X0_valueOf_13 hq ⟨fun h => B_X0_valueOf_442 hq ?_, fun h => by omega⟩
    have h1 := w σ he
    have hl := tyl_len ht
    unfold chkR at hc
    cases hc
    match vs, hl with
    | [v], _ =>
      have : σ 69 0 = v := hs.1
      rw [this]
      exact h1
  | succ n ih =>
    intro i vs ts σ h0 hi he hs ht hc w
    have e2 : w32 (i + 1) = i + 1 := w32_of (by omega) (by omega)
    obtain ⟨ts', hc1, hc2⟩ := chkR_cons hc
    obtain ⟨hl60, hty, hcase⟩ := step_good (nm := nm) hc1 ht
    have hq69 : q + 1 ∉ [69] := by
      have := hq; unfold LinAt at this; simp only [List.mem_singleton]; omega
    have o1 : σ (q + 1) i = partOf (op i) (ar i) := (he _ hq69 _).trans (hcode i h0 (by omega))
    have go : ∀ (σ' : PS), eqx [69] σ0 σ' → stk (σ' 69) (stepE nm (op i) (ar i) vs) → XX g true d P_X0_valueOf 436 [(2, 67), (2, q), (9, 0), (0, b), (0, ((stepE nm (op i) (ar i) vs).length : Int)), (0, i), (9, 0), (9, 0), (9, 0), (9, 0)] [] 136 σ' 136 Q := fun σ' h1 h2 => B_X0_valueOf_436 hq (by rw [e2]; exact ih (i + 1) _ ts' σ' (by omega) (by omega) h1 h2 hty hc2 w)
    refine B_X0_valueOf_13 hq ⟨fun h => by omega, fun h => ⟨fun h5 => by omega, fun h5 => ⟨by omega, fun y2 h2 y3 h3 => ?_⟩⟩⟩
    rw [o1] at h2
    generalize op i = opi at *
    generalize ar i = ari at *
    clear ih hc hc1 hc2 o1 w e2 hty hcode
    rcases hcase with ⟨c1, c2, c3, c4⟩ | ⟨c1, c2, c3, c4, c5⟩ | ⟨c1, x, r, c2, c3⟩ | ⟨c1, y, x, r, c2, c3, c4, c5⟩
    · subst c1
      rw [c4] at go
      have h2 : y2 = ari := h2
      subst h2
      refine ⟨fun _ => B_X0_valueOf_67 hq ⟨fun z => by omega, fun _ => ⟨fun z => by omega, fun _ => ⟨by omega, B_X0_valueOf_98 hq ?_⟩⟩⟩, fun z => by omega⟩
      rw [w32_of (by omega) (by omega)]
      exact go _ (he.su (by decide)) (stk_push hs)
    · subst c1
      rw [c5] at go
      have h2 : y2 = -(262 + nmap ari) := h2
      have hm : 0 ≤ nmap ari ∧ nmap ari < 12 := by unfold nmap; split <;> (try split) <;> (try split) <;> omega
      rw [h2, w32_of (x := - -(262 + nmap ari)) (by omega) (by omega), w32_of (by omega) (by omega)] at h3
      refine ⟨fun z => by omega, fun _ => ⟨fun z => by omega, fun _ => ⟨fun z => by omega, fun _ => B_X0_valueOf_67 hq ⟨fun z => by omega, fun _ => ⟨fun _ => ⟨by omega, by omega, B_X0_valueOf_98 hq ?_⟩, fun z => by omega⟩⟩⟩⟩⟩
      rw [w32_of (x := (vs.length : Int) + 1) (by omega) (by omega), show y3 = nmap ari by omega, he 68 (by decide), hnm ari c2 c3 c4]
      exact go _ (he.su (by decide)) (stk_push hs)
    · subst c1
      subst c2
      rw [c3] at go
      have h2 : y2 = -261 := h2
      subst h2
      have hy3 : y3 = -1 := by rw [h3]; decide
      simp only [List.length_cons] at hl60 go ⊢
      have el : w32 (((r.length + 1 : Nat) : Int) - 1) = r.length := by rw [w32_of (by omega) (by omega)]; omega
      refine ⟨fun z => by omega, fun _ => ⟨fun _ => B_X0_valueOf_104 hq ⟨fun z => absurd rfl z, fun _ => ⟨fun z => by omega, fun _ => ?_⟩⟩, fun z => by omega⟩⟩
      rw [el, hs.1]
      exact ⟨by omega, B_X0_valueOf_138 hq ⟨fun _ => go _ (he.su (by decide)) (stk_push hs.2), fun z => absurd rfl z⟩⟩
    · subst c2
      rw [c3] at go
      simp only [List.length_cons] at hl60 go ⊢
      have hs2 := hs.2
      have hs1 := hs.1
      simp only [List.length_cons] at hs1
      have fin : XX g true d P_X0_valueOf 436 [(2, 67), (2, q), (9, 0), (0, b), (0, (r.length : Int) + 1), (0, i), (9, 0), (9, 0), (9, 0), (9, 0)] [] 136 (su σ 69 r.length (twoF opi x y)) 136 Q := go _ (he.su (by decide)) (stk_push hs2.2)
      have hsym : ∃ c, y2 = -c ∧ ((opi = 2 ∧ c = 43) ∨ (opi = 3 ∧ c = 45) ∨ (opi = 4 ∧ c = 42) ∨ (opi = 5 ∧ c = 47) ∨ (opi = 6 ∧ c = 60) ∨ (opi = 7 ∧ c = 61) ∨ (opi = 8 ∧ c = 62) ∨ (opi = 10 ∧ c = 259) ∨ (opi = 11 ∧ c = 260)) := by
        refine ⟨-y2, by omega, ?_⟩
        unfold partOf at h2
        clear go fin hs hs1 hs2 c3 c4 c5 he
        rcases c1 with rfl | rfl | rfl | rfl | rfl | rfl | rfl | rfl | rfl <;> (simp only [Int.reduceEq, if_false, if_true] at h2; omega)
      obtain ⟨c, hc, hop⟩ := hsym
      subst hc
      have hy3 : y3 < 0 := by rw [h3, w32_of (x := - -c) (by omega) (by omega), w32_of (by omega) (by omega)]; omega
      have hx := s_v138 (b := b) (i := i) (x := x) (y := y) hq hop (m := r.length) (by omega) hs2.1 hs1 c4 c5 fin
      exact ⟨fun z => by omega, fun _ => ⟨fun _ => B_X0_valueOf_104 hq ⟨fun _ => hx, fun z => by omega⟩, fun z => by omega⟩⟩
theorem s_valueOf {q a b : Int} {σ : PS} {okn : Int → Bool} {nm op ar : Int → Int} {t : Nat} (hq : LinAt q) (ha : 0 ≤ a) (hab : a ≤ b) (hb : b ≤ 500) (hcode : ∀ i, 0 ≤ i → i < b → σ (q + 1) i = partOf (op i) (ar i)) (hnm : ∀ a, okn a = true → 0 ≤ a → a < 12 → σ 68 (nmap a) = nm a) (hc : chkR okn op ar (b - a).toNat a [] = some [t])
    (w : ∀ σ', eqx [69] σ σ' → Q (hdI (evR nm op ar (b - a).toNat a [])) σ') : XX g true d P_X0_valueOf 0 [(2, 67), (2, q), (0, a), (0, b), (9, 0), (9, 0), (9, 0), (9, 0), (9, 0), (9, 0)] [] 136 σ 136 Q := by
  refine B_X0_valueOf_0 hq ?_
  have hq69 : ∀ j, su σ 69 0 0 (q + 1) j = σ (q + 1) j := fun j => su_ne (Or.inl (by have := hq; unfold LinAt at this; omega))
  exact s_valueOf_loop (σ0 := su σ 69 0 0) hq ⟨by omega, hb⟩ (fun i h0 h1 => by rw [hq69]; exact hcode i h0 h1) (fun a h1 h2 h3 => by rw [su_ne (Or.inl (by decide))]; exact hnm a h1 h2 h3) (b - a).toNat a [] [] (su σ 69 0 0) ha (by omega) eqx.rf trivial trivial hc (fun σ' h => w σ' ((eqx.rf.su (by decide)).tr h))
end PEVAL
