/-! PURE: small facts, and the smallest methods -/
section PLIB
variable {g : PG} {d : Nat} {σ : PS} {Q : Int → PS → Prop}
theorem w32_of {x : Int} (h1 : -2147483648 ≤ x) (h2 : x ≤ 2147483647) : w32 x = x := w32_id ⟨h1, h2⟩
theorem w64_of {x : Int} (h1 : -9223372036854775808 ≤ x) (h2 : x ≤ 9223372036854775807) : w64 x = x := w64_id ⟨h1, h2⟩
def b2i (p : Prop) [Decidable p] : Int := if p then 1 else 0
theorem s_isIn {v lo hi : Int} (w : Q (if lo ≤ v ∧ v ≤ hi then 1 else 0) σ) : XX g true d P_X12_isIn 0 [(2, 88), (0, v), (0, lo), (0, hi)] [] 136 σ 136 Q := by
  refine B_X12_isIn_0 ?_
  grind
theorem s_isPlace {p : Int} (w : Q (if 0 ≤ p ∧ p < σ 88 2 then 1 else 0) σ) : XX g true d P_X12_isPlace 0 [(2, 88), (0, p)] [] 136 σ 136 Q := by
  refine B_X12_isPlace_0 ?_
  grind
theorem s_has {r p : Int} (hr : RowAt r) (w : Q (if 0 ≤ p ∧ p < σ r 0 then 1 else 0) σ) : XX g true d P_X7_has 0 [(2, r), (0, p)] [] 136 σ 136 Q := by
  refine B_X7_has_0 hr ?_
  grind
theorem s_state (w : ∀ x, Q (σ 43 10) (su σ 43 10 x)) {x : Int} : XX g true d P_X11_state 0 [(2, 0), (0, x), (9, 0)] [] 136 σ 136 Q := by
  refine B_X11_state_0 ?_
  grind
theorem s_place {p s a gn : Int} (hn : σ 88 2 ≤ 60) (w0 : ¬ ((0 ≤ p ∧ p < σ 88 2) ∧ (0 ≤ s ∧ s ≤ 5) ∧ (0 ≤ a ∧ a ≤ 999)) → Q 0 (su σ 88 0 0)) (w1 : (0 ≤ p ∧ p < σ 88 2) → (0 ≤ s ∧ s ≤ 5) → (0 ≤ a ∧ a ≤ 999) → Q 1 (su (su (su (su σ 88 0 0) 89 p s) 90 p a) 91 p (if gn = 0 then 0 else 1))) :
    XX g true (d + 1) P_X12_place 0 [(2, 88), (0, p), (0, s), (0, a), (0, gn)] [] 136 σ 136 Q := by
  refine B_X12_place_0 (s_isPlace ⟨fun h => ?_, fun h => s_isIn ⟨fun h2 => ?_, fun h2 => s_isIn ⟨fun h3 => ?_, fun h3 => ?_⟩⟩⟩)
  all_goals simp only [su_ne, ne_eq, reduceCtorEq, not_false_eq_true, Int.reduceEq, true_or, or_true] at *
  all_goals grind
end PLIB
