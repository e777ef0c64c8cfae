/-! THE LAW: one round of its loop keeps what the two objects hold, and both answer alike -/
def InvL (σ : PS) : Prop := ∃ (t : TS) (fk fp ln : Int) (f : Int → Int) (im : Option TS), OkB t ln f im ∧ ClsB t fk fp ln f im σ ∧ ModB t fk fp ln f im σ
def StepAt (g : PG) (x3 : Int) : Prop := ∀ j : Int, 0 ≤ j → j ≤ 5 → 0 ≤ w32 (x3 + j) ∧ w32 (x3 + j) < (g.2.2.2.2.1 : Int)
theorem s32 {n : Int32} : in32 n.toInt := toInt_in32 _
section PLAW
variable {g : PG} {d : Nat} {Q : Int → PS → Prop} {σ : PS} {x3 : Int}
abbrev GoOn (g : PG) (d : Nat) (x3 : Int) (Q : Int → PS → Prop) : Prop := ∀ σ', InvL σ' → XX g true (d + 41) P_L_law 938 [(2, 100002), (2, 0), (2, 88), (0, x3)] [] 136 σ' 136 Q
theorem c_state (hx : StepAt g x3) (I : InvL σ) (k : GoOn g d x3 Q) : XX g true (d + 41) P_L_law 148 [(2, 100002), (2, 0), (2, 88), (0, x3)] [] 136 σ 136 Q := by
  obtain ⟨t, fk, fp, ln, f, im, ⟨ok, hl, hb, oki⟩, hC, hM⟩ := I
  exact B_L_law_148 ⟨hx 1 (by decide) (by decide), a_stateC hC fun σ1 x1 hC1 => a_stateM (hM.out x1) fun σ2 x2 hM2 => ⟨fun _ => k σ2 ⟨_, _, _, _, _, _, ⟨k_state ok, hl, hb, oki⟩, hC1.out x2, hM2⟩, fun z => absurd rfl z⟩⟩
theorem c_row (hx : StepAt g x3) (I : InvL σ) (k : GoOn g d x3 Q) : XX g true (d + 41) P_L_law 171 [(2, 100002), (2, 0), (2, 88), (0, x3)] [] 136 σ 136 Q := by
  obtain ⟨t, fk, fp, ln, f, im, ⟨ok, hl, hb, oki⟩, hC, hM⟩ := I
  exact B_L_law_171 ⟨hx 1 (by decide) (by decide), a_rowC hC fun σ1 x1 hC1 => a_rowM (hM.out x1) fun σ2 x2 hM2 => ⟨fun _ => k σ2 ⟨_, _, _, _, _, _, ⟨k_row ok, hl, hb, oki⟩, hC1.out x2, hM2⟩, fun z => absurd rfl z⟩⟩
theorem c_sort (hx : StepAt g x3) (I : InvL σ) (k : GoOn g d x3 Q) : XX g true (d + 41) P_L_law 263 [(2, 100002), (2, 0), (2, 88), (0, x3)] [] 136 σ 136 Q := by
  obtain ⟨t, fk, fp, ln, f, im, ⟨ok, hl, hb, oki⟩, hC, hM⟩ := I
  exact B_L_law_263 ⟨hx 1 (by decide) (by decide), hx 2 (by decide) (by decide), hx 3 (by decide) (by decide), a_sortC hC fun σ1 x1 hC1 => a_sortM (hM.out x1) fun σ2 x2 hM2 => ⟨fun _ => k σ2 ⟨_, _, _, _, _, _, ⟨k_sort ok, hl, hb, oki⟩, hC1.out x2, hM2⟩, fun z => absurd rfl z⟩⟩
theorem c_set (hx : StepAt g x3) (I : InvL σ) (k : GoOn g d x3 Q) : XX g true (d + 41) P_L_law 306 [(2, 100002), (2, 0), (2, 88), (0, x3)] [] 136 σ 136 Q := by
  obtain ⟨t, fk, fp, ln, f, im, ⟨ok, hl, hb, oki⟩, hC, hM⟩ := I
  exact B_L_law_306 ⟨hx 1 (by decide) (by decide), hx 2 (by decide) (by decide), a_setC hC fun σ1 x1 hC1 => a_setM (hM.out x1) fun σ2 x2 hM2 => ⟨fun _ => k σ2 ⟨_, _, _, _, _, _, ⟨k_set ok, hl, hb, oki⟩, hC1.out x2, hM2⟩, fun z => absurd rfl z⟩⟩
theorem c_feed (hx : StepAt g x3) (I : InvL σ) (k : GoOn g d x3 Q) : XX g true (d + 41) P_L_law 339 [(2, 100002), (2, 0), (2, 88), (0, x3)] [] 136 σ 136 Q := by
  obtain ⟨t, fk, fp, ln, f, im, ⟨ok, hl, hb, oki⟩, hC, hM⟩ := I
  have kf := k_feed hl hb (a := (g.2.2.2.2.2 (w32 (x3 + 1)).toNat).toInt) (b := (g.2.2.2.2.2 (w32 (x3 + 2)).toNat).toInt) (c := (g.2.2.2.2.2 (w32 (x3 + 3)).toNat).toInt) (e := (g.2.2.2.2.2 (w32 (x3 + 4)).toNat).toInt) (x := (g.2.2.2.2.2 (w32 (x3 + 5)).toNat).toInt) s32 s32 s32 s32 s32
  exact B_L_law_339 ⟨hx 1 (by decide) (by decide), hx 2 (by decide) (by decide), hx 3 (by decide) (by decide), hx 4 (by decide) (by decide), hx 5 (by decide) (by decide), a_feedC hC hl s32 s32 s32 s32 s32 fun σ1 x1 hC1 => a_feedM (hM.out x1) hl fun σ2 x2 hM2 => ⟨fun _ => k σ2 ⟨_, _, _, _, _, _, ⟨ok, kf.1, kf.2, oki⟩, hC1.out x2, hM2⟩, fun z => absurd rfl z⟩⟩
theorem c_end (hx : StepAt g x3) (I : InvL σ) (k : GoOn g d x3 Q) : XX g true (d + 41) P_L_law 402 [(2, 100002), (2, 0), (2, 88), (0, x3)] [] 136 σ 136 Q := by
  obtain ⟨t, fk, fp, ln, f, im, ⟨ok, hl, hb, oki⟩, hC, hM⟩ := I
  exact B_L_law_402 ⟨hx 1 (by decide) (by decide), a_endC hC fun σ1 x1 hC1 => a_endM (hM.out x1) fun σ2 x2 hM2 => ⟨fun _ => k σ2 ⟨_, _, _, _, _, _, ⟨ok, (k_end hl).1, fun i i0 i1 => hb i i0 (Int.lt_of_lt_of_le i1 (k_end hl).2), oki⟩, hC1.out x2, hM2⟩, fun z => absurd rfl z⟩⟩
theorem c_text (hx : StepAt g x3) (I : InvL σ) (k : GoOn g d x3 Q) : XX g true (d + 41) P_L_law 425 [(2, 100002), (2, 0), (2, 88), (0, x3)] [] 136 σ 136 Q := by
  obtain ⟨t, fk, fp, ln, f, im, ⟨ok, hl, hb, oki⟩, hC, hM⟩ := I
  exact B_L_law_425 ⟨hx 1 (by decide) (by decide), a_textC hC hl hb fun σ1 x1 hC1 => a_textM (hM.out x1) ok hl hb fun σ2 x2 hM2 => ⟨fun _ => k σ2 ⟨_, _, _, _, _, _, ⟨textT_ok hl ok, ⟨Int.le_refl 0, (by decide)⟩, (fun i i0 i1 => absurd i1 (by omega)), oki⟩, hC1.out x2, hM2⟩, fun z => absurd rfl z⟩⟩
theorem c_fault (hx : StepAt g x3) (I : InvL σ) (k : GoOn g d x3 Q) : XX g true (d + 41) P_L_law 448 [(2, 100002), (2, 0), (2, 88), (0, x3)] [] 136 σ 136 Q := by
  obtain ⟨t, fk, fp, ln, f, im, ⟨ok, hl, hb, oki⟩, hC, hM⟩ := I
  exact B_L_law_448 ⟨hx 1 (by decide) (by decide), a_faultC hC fun σ1 x1 hC1 => a_faultM (hM.out x1) fun σ2 x2 hM2 => ⟨fun _ => k σ2 ⟨_, _, _, _, _, _, ⟨ok, hl, hb, oki⟩, hC1.out x2, hM2⟩, fun z => absurd rfl z⟩⟩
theorem c_of (hx : StepAt g x3) (I : InvL σ) (k : GoOn g d x3 Q) : XX g true (d + 41) P_L_law 471 [(2, 100002), (2, 0), (2, 88), (0, x3)] [] 136 σ 136 Q := by
  obtain ⟨t, fk, fp, ln, f, im, ⟨ok, hl, hb, oki⟩, hC, hM⟩ := I
  exact B_L_law_471 ⟨hx 1 (by decide) (by decide), hx 2 (by decide) (by decide), a_ofC hC ok fun σ1 x1 hC1 => a_ofM (hM.out x1) ok fun σ2 x2 hM2 => ⟨fun _ => k σ2 ⟨_, _, _, _, _, _, ⟨ok, hl, hb, oki⟩, hC1.out x2, hM2⟩, fun z => absurd rfl z⟩⟩
theorem c_see (hx : StepAt g x3) (I : InvL σ) (k : GoOn g d x3 Q) : XX g true (d + 41) P_L_law 504 [(2, 100002), (2, 0), (2, 88), (0, x3)] [] 136 σ 136 Q := by
  obtain ⟨t, fk, fp, ln, f, im, ⟨ok, hl, hb, oki⟩, hC, hM⟩ := I
  exact B_L_law_504 ⟨hx 1 (by decide) (by decide), a_seeC hC ok fun σ1 x1 hC1 => a_seeM (hM.out x1) ok fun σ2 x2 hM2 => ⟨fun _ => k σ2 ⟨_, _, _, _, _, _, ⟨k_see ok, hl, hb, oki⟩, hC1.out x2, hM2⟩, fun z => absurd rfl z⟩⟩
theorem c_fails (hx : StepAt g x3) (I : InvL σ) (k : GoOn g d x3 Q) : XX g true (d + 41) P_L_law 527 [(2, 100002), (2, 0), (2, 88), (0, x3)] [] 136 σ 136 Q := by
  obtain ⟨t, fk, fp, ln, f, im, ⟨ok, hl, hb, oki⟩, hC, hM⟩ := I
  exact B_L_law_527 ⟨hx 1 (by decide) (by decide), hx 2 (by decide) (by decide), a_failsC hC ok s32 s32 fun σ1 x1 hC1 => a_failsM (hM.out x1) ok s32 s32 fun σ2 x2 hM2 => ⟨fun _ => k σ2 ⟨_, _, _, _, _, _, ⟨ok, hl, hb, oki⟩, hC1.out x2, hM2⟩, fun z => absurd rfl z⟩⟩
theorem c_days (hx : StepAt g x3) (I : InvL σ) (k : GoOn g d x3 Q) : XX g true (d + 41) P_L_law 560 [(2, 100002), (2, 0), (2, 88), (0, x3)] [] 136 σ 136 Q := by
  obtain ⟨t, fk, fp, ln, f, im, ⟨ok, hl, hb, oki⟩, hC, hM⟩ := I
  exact B_L_law_560 ⟨hx 1 (by decide) (by decide), a_daysC hC ok fun σ1 x1 hC1 => a_daysM (hM.out x1) ok fun σ2 x2 hM2 => ⟨fun _ => k σ2 ⟨_, _, _, _, _, _, ⟨k_days ok, hl, hb, oki⟩, hC1.out x2, hM2⟩, fun z => absurd rfl z⟩⟩
theorem c_chance (hx : StepAt g x3) (I : InvL σ) (k : GoOn g d x3 Q) : XX g true (d + 41) P_L_law 583 [(2, 100002), (2, 0), (2, 88), (0, x3)] [] 136 σ 136 Q := by
  obtain ⟨t, fk, fp, ln, f, im, ⟨ok, hl, hb, oki⟩, hC, hM⟩ := I
  exact B_L_law_583 ⟨hx 1 (by decide) (by decide), a_chanceC hC ok fun σ1 x1 hC1 => a_chanceM (hM.out x1) ok fun σ2 x2 hM2 => ⟨fun _ => k σ2 ⟨_, _, _, _, _, _, ⟨ok, hl, hb, oki⟩, hC1.out x2, hM2⟩, fun z => absurd rfl z⟩⟩
theorem c_left (hx : StepAt g x3) (I : InvL σ) (k : GoOn g d x3 Q) : XX g true (d + 41) P_L_law 607 [(2, 100002), (2, 0), (2, 88), (0, x3)] [] 136 σ 136 Q := by
  obtain ⟨t, fk, fp, ln, f, im, ⟨ok, hl, hb, oki⟩, hC, hM⟩ := I
  exact B_L_law_607 ⟨hx 1 (by decide) (by decide), a_leftC hC ok fun σ1 x1 hC1 => a_leftM (hM.out x1) ok fun σ2 x2 hM2 => ⟨fun _ => k σ2 ⟨_, _, _, _, _, _, ⟨ok, hl, hb, oki⟩, hC1.out x2, hM2⟩, fun z => absurd rfl z⟩⟩
theorem c_ahead (hx : StepAt g x3) (I : InvL σ) (k : GoOn g d x3 Q) : XX g true (d + 41) P_L_law 631 [(2, 100002), (2, 0), (2, 88), (0, x3)] [] 136 σ 136 Q := by
  obtain ⟨t, fk, fp, ln, f, im, ⟨ok, hl, hb, oki⟩, hC, hM⟩ := I
  exact B_L_law_631 ⟨hx 1 (by decide) (by decide), hx 2 (by decide) (by decide), a_aheadC hC ok fun σ1 x1 hC1 => a_aheadM (hM.out x1) ok fun σ2 x2 hM2 => ⟨fun _ => k σ2 ⟨_, _, _, _, _, _, ⟨ok, hl, hb, oki⟩, hC1.out x2, hM2⟩, fun z => absurd rfl z⟩⟩
theorem c_hold (hx : StepAt g x3) (I : InvL σ) (k : GoOn g d x3 Q) : XX g true (d + 41) P_L_law 664 [(2, 100002), (2, 0), (2, 88), (0, x3)] [] 136 σ 136 Q := by
  obtain ⟨t, fk, fp, ln, f, im, ⟨ok, hl, hb, oki⟩, hC, hM⟩ := I
  exact B_L_law_664 ⟨hx 1 (by decide) (by decide), a_holdC hC ok fun σ1 x1 hC1 => a_holdM (hM.out x1) ok fun σ2 x2 hM2 => ⟨fun _ => k σ2 ⟨_, _, _, _, _, _, ⟨ok, hl, hb, oki⟩, hC1.out x2, hM2⟩, fun z => absurd rfl z⟩⟩
theorem c_which (hx : StepAt g x3) (I : InvL σ) (k : GoOn g d x3 Q) : XX g true (d + 41) P_L_law 688 [(2, 100002), (2, 0), (2, 88), (0, x3)] [] 136 σ 136 Q := by
  obtain ⟨t, fk, fp, ln, f, im, ⟨ok, hl, hb, oki⟩, hC, hM⟩ := I
  exact B_L_law_688 ⟨hx 1 (by decide) (by decide), a_whichC hC ok fun σ1 x1 hC1 => a_whichM (hM.out x1) ok fun σ2 x2 hM2 => ⟨fun _ => k σ2 ⟨_, _, _, _, _, _, ⟨ok, hl, hb, oki⟩, hC1.out x2, hM2⟩, fun z => absurd rfl z⟩⟩
theorem c_where (hx : StepAt g x3) (I : InvL σ) (k : GoOn g d x3 Q) : XX g true (d + 41) P_L_law 711 [(2, 100002), (2, 0), (2, 88), (0, x3)] [] 136 σ 136 Q := by
  obtain ⟨t, fk, fp, ln, f, im, ⟨ok, hl, hb, oki⟩, hC, hM⟩ := I
  exact B_L_law_711 ⟨hx 1 (by decide) (by decide), a_whereC hC ok fun σ1 x1 hC1 => a_whereM (hM.out x1) ok fun σ2 x2 hM2 => ⟨fun _ => k σ2 ⟨_, _, _, _, _, _, ⟨ok, hl, hb, oki⟩, hC1.out x2, hM2⟩, fun z => absurd rfl z⟩⟩
theorem c_stocks (hx : StepAt g x3) (I : InvL σ) (k : GoOn g d x3 Q) : XX g true (d + 41) P_L_law 734 [(2, 100002), (2, 0), (2, 88), (0, x3)] [] 136 σ 136 Q := by
  obtain ⟨t, fk, fp, ln, f, im, ⟨ok, hl, hb, oki⟩, hC, hM⟩ := I
  exact B_L_law_734 ⟨hx 1 (by decide) (by decide), hx 2 (by decide) (by decide), a_stocksC hC ok fun σ1 x1 hC1 => a_stocksM (hM.out x1) ok fun σ2 x2 hM2 => ⟨fun _ => k σ2 ⟨_, _, _, _, _, _, ⟨ok, hl, hb, oki⟩, hC1.out x2, hM2⟩, fun z => absurd rfl z⟩⟩
theorem c_thought (hx : StepAt g x3) (I : InvL σ) (k : GoOn g d x3 Q) : XX g true (d + 41) P_L_law 767 [(2, 100002), (2, 0), (2, 88), (0, x3)] [] 136 σ 136 Q := by
  obtain ⟨t, fk, fp, ln, f, im, ⟨ok, hl, hb, oki⟩, hC, hM⟩ := I
  exact B_L_law_767 ⟨hx 1 (by decide) (by decide), hx 2 (by decide) (by decide), hx 3 (by decide) (by decide), hx 4 (by decide) (by decide), a_thoughtC hC ok fun σ1 x1 hC1 => a_thoughtM (hM.out x1) ok fun σ2 x2 hM2 => ⟨fun _ => k σ2 ⟨_, _, _, _, _, _, ⟨ok, hl, hb, oki⟩, hC1.out x2, hM2⟩, fun z => absurd rfl z⟩⟩
theorem c_often (hx : StepAt g x3) (I : InvL σ) (k : GoOn g d x3 Q) : XX g true (d + 41) P_L_law 820 [(2, 100002), (2, 0), (2, 88), (0, x3)] [] 136 σ 136 Q := by
  obtain ⟨t, fk, fp, ln, f, im, ⟨ok, hl, hb, oki⟩, hC, hM⟩ := I
  exact B_L_law_820 ⟨hx 1 (by decide) (by decide), hx 2 (by decide) (by decide), a_oftenC hC ok fun σ1 x1 hC1 => a_oftenM (hM.out x1) ok fun σ2 x2 hM2 => ⟨fun _ => k σ2 ⟨_, _, _, _, _, _, ⟨ok, hl, hb, oki⟩, hC1.out x2, hM2⟩, fun z => absurd rfl z⟩⟩
theorem c_nine (hx : StepAt g x3) (I : InvL σ) (k : GoOn g d x3 Q) : XX g true (d + 41) P_L_law 853 [(2, 100002), (2, 0), (2, 88), (0, x3)] [] 136 σ 136 Q := by
  obtain ⟨t, fk, fp, ln, f, im, ⟨ok, hl, hb, oki⟩, hC, hM⟩ := I
  exact B_L_law_853 ⟨hx 1 (by decide) (by decide), a_nineC hC ok fun σ1 x1 hC1 => a_nineM (hM.out x1) ok fun σ2 x2 hM2 => ⟨fun _ => k σ2 ⟨_, _, _, _, _, _, ⟨ok, hl, hb, oki⟩, hC1.out x2, hM2⟩, fun z => absurd rfl z⟩⟩
theorem c_look (hx : StepAt g x3) (I : InvL σ) (k : GoOn g d x3 Q) : XX g true (d + 41) P_L_law 915 [(2, 100002), (2, 0), (2, 88), (0, x3)] [] 136 σ 136 Q := by
  obtain ⟨t, fk, fp, ln, f, im, ⟨ok, hl, hb, oki⟩, hC, hM⟩ := I
  exact B_L_law_915 ⟨hx 1 (by decide) (by decide), a_lookC hC ok s32 fun σ1 x1 hC1 => a_lookM (hM.out x1) ok s32 fun σ2 x2 hM2 => ⟨fun _ => k σ2 ⟨_, _, _, _, _, _, ⟨ok, hl, hb, oki⟩, hC1.out x2, hM2⟩, fun z => absurd rfl z⟩⟩
theorem c_place (hx : StepAt g x3) (I : InvL σ) (k : GoOn g d x3 Q) : XX g true (d + 41) P_L_law 194 [(2, 100002), (2, 0), (2, 88), (0, x3)] [] 136 σ 136 Q := by
  obtain ⟨t, fk, fp, ln, f, im, ⟨ok, hl, hb, oki⟩, hC, hM⟩ := I
  refine B_L_law_194 ⟨hx 1 (by decide) (by decide), hx 2 (by decide) (by decide), hx 3 (by decide) (by decide), hx 4 (by decide) (by decide), fun z => ?_, fun z => ?_⟩
  · exact a_placeC hC ok fun σ1 x1 hC1 => ⟨fun _ => a_placeM (hM.out x1) ok fun σ2 x2 hM2 => ⟨fun _ => k σ2 ⟨_, _, _, _, _, _, ⟨k_place ok, hl, hb, oki⟩, hC1.out x2, hM2⟩, fun q => absurd rfl q⟩, fun z2 => absurd z z2⟩
  · exact a_placeC hC ok fun σ1 x1 hC1 => ⟨fun z2 => absurd z2 z, fun _ => a_placeM (hM.out x1) ok fun σ2 x2 hM2 => ⟨fun _ => k σ2 ⟨_, _, _, _, _, _, ⟨k_place ok, hl, hb, oki⟩, hC1.out x2, hM2⟩, fun q => absurd rfl q⟩⟩
theorem c_image (hx : StepAt g x3) (I : InvL σ) (k : GoOn g d x3 Q) : XX g true (d + 41) P_L_law 876 [(2, 100002), (2, 0), (2, 88), (0, x3)] [] 136 σ 136 Q := by
  obtain ⟨t, fk, fp, ln, f, im, ⟨ok, hl, hb, oki⟩, hC, hM⟩ := I
  refine B_L_law_876 ⟨hx 1 (by decide) (by decide), fun z => ?_, fun z => ?_⟩
  · exact a_imageC hC ok oki fun σ1 x1 hC1 => ⟨fun _ => a_imageM (Or.inl rfl) (hM.out x1) oki fun σ2 x2 hM2 => ⟨fun _ => k σ2 ⟨_, _, _, _, _, _, ⟨k_imgN ok oki, hl, hb, k_imgI ok oki⟩, hC1.out x2, hM2⟩, fun q => absurd rfl q⟩, fun z2 => absurd z z2⟩
  · exact a_imageC hC ok oki fun σ1 x1 hC1 => ⟨fun z2 => absurd z2 z, fun _ => a_imageM (Or.inr rfl) (hM.out x1) oki fun σ2 x2 hM2 => ⟨fun _ => k σ2 ⟨_, _, _, _, _, _, ⟨k_imgN ok oki, hl, hb, k_imgI ok oki⟩, hC1.out x2, hM2⟩, fun q => absurd rfl q⟩⟩
theorem c_law (hL : g.2.2.2.2.1 < 100000) (hQ : ∀ σ', Q 1 σ') : ∀ (n : Nat) (x3 : Int) (σ : PS), 0 ≤ x3 → (g.2.2.2.2.1 : Int) ≤ x3 + 6 * n → InvL σ → XX g true (d + 41) P_L_law 18 [(2, 100002), (2, 0), (2, 88), (0, x3)] [] 136 σ 136 Q := by
  intro n
  induction n with
  | zero =>
    intro x3 σ h0 hn I
    have e : w32 ((g.2.2.2.2.1 : Int) - 6) = (g.2.2.2.2.1 : Int) - 6 := w32_of (by omega) (by omega)
    exact B_L_law_18 ⟨hL, fun _ => hQ σ, fun z => by rw [e] at z; omega⟩
  | succ n ih =>
    intro x3 σ h0 hn I
    have e : w32 ((g.2.2.2.2.1 : Int) - 6) = (g.2.2.2.2.1 : Int) - 6 := w32_of (by omega) (by omega)
    refine B_L_law_18 ⟨hL, fun _ => hQ σ, fun z => ?_⟩
    rw [e] at z
    clear e
    have hx : StepAt g x3 := fun j j0 j1 => by
      rw [w32_of (by omega) (by omega)]
      omega
    have k : GoOn g d x3 Q := fun σ' I' => by
      refine B_L_law_938 ?_
      rw [w32_of (by omega) (by omega)]
      exact ih (x3 + 6) σ' (by omega) (by omega) I'
    exact ⟨by omega, fun _ => c_state hx I k, fun _ => c_row hx I k, fun _ => c_place hx I k, fun _ => c_sort hx I k, fun _ => c_set hx I k, fun _ => c_feed hx I k, fun _ => c_end hx I k, fun _ => c_text hx I k, fun _ => c_fault hx I k, fun _ => c_of hx I k, fun _ => c_see hx I k, fun _ => c_fails hx I k, fun _ => c_days hx I k, fun _ => c_chance hx I k, fun _ => c_left hx I k, fun _ => c_ahead hx I k, fun _ => c_hold hx I k, fun _ => c_which hx I k, fun _ => c_where hx I k, fun _ => c_stocks hx I k, fun _ => c_thought hx I k, fun _ => c_often hx I k, fun _ => c_nine hx I k, fun _ => c_image hx I k, fun _ => c_look hx I k, fun _ => k σ I⟩
end PLAW
theorem law_walked (g : PG) (hL : g.2.2.2.2.1 < 100000) : XX g false 60 P_L_law 0 [(2, 100002), (9, 0), (9, 0), (9, 0)] [] 0 K0 136 (fun r _ => r = 1) :=
  law_entry (d := 55) (c_law (d := 19) hL (fun _ => rfl) g.2.2.2.2.1 0 KI (Int.le_refl 0) (by omega) ⟨tsZ, 0, -1, 0, fun _ => 0, none, start_ok, start_C, start_M⟩)
