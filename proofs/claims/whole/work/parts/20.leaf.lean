abbrev nh_hs (s k : Int32) : Prop := (s >>> (k &&& 31)) &&& 1 = 1
theorem nh_w64 (a b : Int32) : a.toInt64 < b.toInt64 ↔ a < b := by rw [Int64.lt_iff_toInt_lt, Int32.lt_iff_toInt_lt, Int32.toInt_toInt64, Int32.toInt_toInt64]
set_option maxRecDepth 20000 in
theorem sg_X9_has_0 (x0 : Int32) (x1 : Int32) {σ : nh_S} {Q : Option Value → nh_S → Prop} (h : Q (some (.int (if (x0 >>> (x1 &&& 31)) &&& 1 = 1 then 1 else 0))) σ) : nh_E kX9_has 0 [some (.int x0), some (.int x1)] [] σ Q := by
  refine nE_iload_n dX9_has_0 rfl rfl ?_
  refine nE_iload_n dX9_has_1 rfl rfl ?_
  refine nE_ishr dX9_has_2 ?_
  refine nE_iconst (v := 1) dX9_has_3 (by decide) ?_
  refine nE_iand dX9_has_4 ?_
  refine nE_iconst (v := 1) dX9_has_5 (by decide) ?_
  have j1 : nh_E kX9_has 14 [some (.int x0), some (.int x1)] [.int (if (x0 >>> (x1 &&& 31)) &&& 1 = 1 then 1 else 0)] σ Q := by
    exact nE_zret (ty := .boolean) dX9_has_14 rfl (nh_nb _) h
  refine nE_icmp_ne (tgt := 13) dX9_has_6 (by decide) ⟨fun c2 => ?_, fun c2 => ?_⟩
  · skip
    have f3 : ((x0 >>> (x1 &&& 31)) &&& 1 = 1) = False := eq_false c2
    refine nE_iconst (v := 0) dX9_has_13 (by decide) ?_
    exact nh_topi (show ((if (x0 >>> (x1 &&& 31)) &&& 1 = 1 then 1 else 0) : Int32) = 0 from by simp only [if_true, if_false, not_true_eq_false, not_false_eq_true, true_and, and_true, false_and, and_false, true_or, or_true, false_or, or_false, if_pos, if_neg, ite_true, ite_false, f3]) j1
  · skip
    have f4 : ((x0 >>> (x1 &&& 31)) &&& 1 = 1) = True := eq_true c2
    refine nE_iconst (v := 1) dX9_has_9 (by decide) ?_
    refine nE_goto (tgt := 14) dX9_has_10 (by decide) ?_
    exact nh_topi (show ((if (x0 >>> (x1 &&& 31)) &&& 1 = 1 then 1 else 0) : Int32) = 1 from by simp only [if_true, if_false, not_true_eq_false, not_false_eq_true, true_and, and_true, false_and, and_false, true_or, or_true, false_or, or_false, if_pos, if_neg, ite_true, ite_false, f4]) j1
theorem p_X9_has (s k : Int32) {σ : nh_S} {Q : Option Value → nh_S → Prop} (h : Q (some (.int (if nh_hs s k then 1 else 0))) σ) : nh_E kX9_has 0 [some (.int s), some (.int k)] [] σ Q := sg_X9_has_0 s k h
set_option maxRecDepth 20000 in
theorem sg_X9_one_0 (x0 : Int32) {σ : nh_S} {Q : Option Value → nh_S → Prop} (h : Q (some (.int (if ¬ (x0 = 0) then 1 else 0))) σ) : nh_E kX9_one 0 [some (.int x0)] [] σ Q := by
  refine nE_iload_n dX9_one_0 rfl rfl ?_
  have j1 : nh_E kX9_one 9 [some (.int x0)] [.int (if ¬ (x0 = 0) then 1 else 0)] σ Q := by
    exact nE_iret dX9_one_9 rfl h
  refine nE_if_eq (tgt := 8) dX9_one_1 (by decide) ⟨fun c2 => ?_, fun c2 => ?_⟩
  · skip
    have f3 : (x0 = 0) = True := eq_true c2
    refine nE_iconst (v := 0) dX9_one_8 (by decide) ?_
    exact nh_topi (show ((if ¬ (x0 = 0) then 1 else 0) : Int32) = 0 from by simp only [if_true, if_false, not_true_eq_false, not_false_eq_true, true_and, and_true, false_and, and_false, true_or, or_true, false_or, or_false, if_pos, if_neg, ite_true, ite_false, f3]) j1
  · skip
    have f4 : (x0 = 0) = False := eq_false c2
    refine nE_iconst (v := 1) dX9_one_4 (by decide) ?_
    refine nE_goto (tgt := 9) dX9_one_5 (by decide) ?_
    exact nh_topi (show ((if ¬ (x0 = 0) then 1 else 0) : Int32) = 1 from by simp only [if_true, if_false, not_true_eq_false, not_false_eq_true, true_and, and_true, false_and, and_false, true_or, or_true, false_or, or_false, if_pos, if_neg, ite_true, ite_false, f4]) j1
theorem p_X9_one (c : Prop) [Decidable c] {σ : nh_S} {Q : Option Value → nh_S → Prop} (h : Q (some (.int (if c then 1 else 0))) σ) : nh_E kX9_one 0 [some (.int (if c then 1 else 0))] [] σ Q := by
  refine sg_X9_one_0 _ ?_
  by_cases hc : c
  · simp only [if_pos hc] at h ⊢; exact h
  · simp only [if_neg hc] at h ⊢; exact h
set_option maxRecDepth 20000 in
theorem sg_X9_in_0 (x0 : Int64) (x2 : Int64) (x4 : Int64) {σ : nh_S} {Q : Option Value → nh_S → Prop} (h : Q (some (.int (if ¬ (x0 < x2) ∧ (¬ (x4 < x0)) then 1 else 0))) σ) : nh_E kX9_in 0 [some (.long x0), none, some (.long x2), none, some (.long x4), none] [] σ Q := by
  refine nE_lload_n dX9_in_0 rfl rfl ?_
  refine nE_lload_n dX9_in_1 rfl rfl ?_
  refine nE_lcmp dX9_in_2 ?_
  have j1 : nh_E kX9_in 18 [some (.long x0), none, some (.long x2), none, some (.long x4), none] [.int (if ¬ (x0 < x2) ∧ (¬ (x4 < x0)) then 1 else 0)] σ Q := by
    exact nE_zret (ty := .boolean) dX9_in_18 rfl (nh_nb _) h
  refine nE_ifl_lt (tgt := 17) dX9_in_3 (by decide) ⟨fun c2 => ?_, fun c2 => ?_⟩
  · skip
    have f3 : (x0 < x2) = True := eq_true c2
    refine nE_iconst (v := 0) dX9_in_17 (by decide) ?_
    exact nh_topi (show ((if ¬ (x0 < x2) ∧ (¬ (x4 < x0)) then 1 else 0) : Int32) = 0 from by simp only [if_true, if_false, not_true_eq_false, not_false_eq_true, true_and, and_true, false_and, and_false, true_or, or_true, false_or, or_false, if_pos, if_neg, ite_true, ite_false, f3]) j1
  · skip
    have f4 : (x0 < x2) = False := eq_false c2
    refine nE_lload_n dX9_in_6 rfl rfl ?_
    refine nE_lload dX9_in_7 rfl ?_
    refine nE_lcmp dX9_in_9 ?_
    refine nE_ifl_gt (tgt := 17) dX9_in_10 (by decide) ⟨fun c5 => ?_, fun c5 => ?_⟩
    · skip
      have f6 : (x4 < x0) = True := eq_true c5
      refine nE_iconst (v := 0) dX9_in_17 (by decide) ?_
      exact nh_topi (show ((if ¬ (x0 < x2) ∧ (¬ (x4 < x0)) then 1 else 0) : Int32) = 0 from by simp only [if_true, if_false, not_true_eq_false, not_false_eq_true, true_and, and_true, false_and, and_false, true_or, or_true, false_or, or_false, if_pos, if_neg, ite_true, ite_false, f4, f6]) j1
    · skip
      have f7 : (x4 < x0) = False := eq_false c5
      refine nE_iconst (v := 1) dX9_in_13 (by decide) ?_
      refine nE_goto (tgt := 18) dX9_in_14 (by decide) ?_
      exact nh_topi (show ((if ¬ (x0 < x2) ∧ (¬ (x4 < x0)) then 1 else 0) : Int32) = 1 from by simp only [if_true, if_false, not_true_eq_false, not_false_eq_true, true_and, and_true, false_and, and_false, true_or, or_true, false_or, or_false, if_pos, if_neg, ite_true, ite_false, f4, f7]) j1
theorem p_X9_in (x lo hi : Int32) {a b : Int64} (ha : a = lo.toInt64) (hb : b = hi.toInt64) {σ : nh_S} {Q : Option Value → nh_S → Prop} (h : Q (some (.int (if ¬ (x < lo) ∧ ¬ (hi < x) then 1 else 0))) σ) : nh_E kX9_in 0 [some (.long x.toInt64), none, some (.long a), none, some (.long b), none] [] σ Q := by
  subst ha
  subst hb
  refine sg_X9_in_0 _ _ _ ?_
  simp only [nh_w64]
  exact h
set_option maxRecDepth 20000 in
theorem sg_X9_held_0 (x0 : Int32) {σ : nh_S} {Q : Option Value → nh_S → Prop} (h : Q (some (.int (if 0 ≤ x0 then x0 else 500))) σ) : nh_E kX9_held 0 [some (.int x0)] [] σ Q := by
  refine nE_iload_n dX9_held_0 rfl rfl ?_
  have j1 : nh_E kX9_held 11 [some (.int x0)] [.int (if 0 ≤ x0 then x0 else 500)] σ Q := by
    exact nE_iret dX9_held_11 rfl h
  refine nE_if_ge (tgt := 10) dX9_held_1 (by decide) ⟨fun c2 => ?_, fun c2 => ?_⟩
  · skip
    have f3 : (0 ≤ x0) = True := eq_true c2
    refine nE_iload_n dX9_held_10 rfl rfl ?_
    exact nh_topi (show ((if 0 ≤ x0 then x0 else 500) : Int32) = x0 from by simp only [if_true, if_false, not_true_eq_false, not_false_eq_true, true_and, and_true, false_and, and_false, true_or, or_true, false_or, or_false, if_pos, if_neg, ite_true, ite_false, f3]) j1
  · skip
    have f4 : (0 ≤ x0) = False := eq_false c2
    refine nE_sipush (v := 500) dX9_held_4 (by decide) ?_
    refine nE_goto (tgt := 11) dX9_held_7 (by decide) ?_
    exact nh_topi (show ((if 0 ≤ x0 then x0 else 500) : Int32) = 500 from by simp only [if_true, if_false, not_true_eq_false, not_false_eq_true, true_and, and_true, false_and, and_false, true_or, or_true, false_or, or_false, if_pos, if_neg, ite_true, ite_false, f4]) j1
theorem p_X9_held (x : Int32) {σ : nh_S} {Q : Option Value → nh_S → Prop} (h : Q (some (.int (if 0 ≤ x then x else 500))) σ) : nh_E kX9_held 0 [some (.int x)] [] σ Q := sg_X9_held_0 x h
set_option maxRecDepth 20000 in
theorem sg_X9_farOf_0 (x1 : Int32) (x2 : Int32) {σ : nh_S} {Q : Option Value → nh_S → Prop} (h : (vp_in ((9 * x1) + x2) 81) ∧ Q (some (.int (σ.2.1 14 (((9 * x1) + x2).toNatClampNeg)))) σ) : nh_E kX9_farOf 0 [some (.ref 0), some (.int x1), some (.int x2)] [] σ Q := by
  refine nE_aload_n dX9_farOf_0 rfl rfl ?_
  refine nE_getC fl_X9_54 sR_0 rfl dX9_farOf_1 ?_
  refine nE_bipush (v := 9) dX9_farOf_4 (by decide) ?_
  refine nE_iload_n dX9_farOf_6 rfl rfl ?_
  refine nE_imul dX9_farOf_7 ?_
  refine nE_iload_n dX9_farOf_8 rfl rfl ?_
  refine nE_iadd dX9_farOf_9 ?_
  obtain ⟨g1, h⟩ := h
  refine nG_iald (j := ((9 * x1) + x2).toNatClampNeg) sR_14 rfl dX9_farOf_10 ⟨g1, ?_⟩
  exact nE_iret dX9_farOf_11 rfl h
theorem p_X9_farOf {a b : Int32} (hi : vp_in ((9 * a) + b) 81) {σ : nh_S} {Q : Option Value → nh_S → Prop} (h : Q (some (.int (σ.2.1 14 (((9 * a) + b).toNatClampNeg)))) σ) : nh_E kX9_farOf 0 [some (.ref 0), some (.int a), some (.int b)] [] σ Q := sg_X9_farOf_0 a b ⟨hi, h⟩
set_option maxRecDepth 20000 in
theorem sg_X9_isHouse_0 (x1 : Int32) {σ : nh_S} {Q : Option Value → nh_S → Prop} (h : Q (some (.int (if ¬ (x1 < 0) ∧ ¬ (((σ.2.1 9 0) - 1) < x1) then 1 else 0))) σ) : nh_E kX9_isHouse 0 [some (.ref 0), some (.int x1)] [] σ Q := by
  refine nE_iload_n dX9_isHouse_0 rfl rfl ?_
  refine nE_i2l dX9_isHouse_1 ?_
  refine nE_lconst (v := 0) dX9_isHouse_2 (by decide) ?_
  refine nE_aload_n dX9_isHouse_3 rfl rfl ?_
  refine nE_getC fl_X9_35 sR_0 rfl dX9_isHouse_4 ?_
  refine nE_iconst (v := 0) dX9_isHouse_7 (by decide) ?_
  refine nG_iald (j := 0) sR_9 (by decide) dX9_isHouse_8 ⟨(nh_vi (by decide)), ?_⟩
  refine nE_iconst (v := 1) dX9_isHouse_9 (by decide) ?_
  refine nE_isub dX9_isHouse_10 ?_
  refine nE_i2l dX9_isHouse_11 ?_
  refine nE_callS (As := [.long x1.toInt64, .long 0, .long (((σ.2.1 9 0) - 1).toInt64)]) yf_X9_in ⟨by decide, by decide⟩ rfl sl_X9_95 dX9_isHouse_12 rfl rfl (Nat.le_of_ble_eq_true rfl) (Nat.le_of_ble_eq_true rfl) (p_X9_in x1 0 ((σ.2.1 9 0) - 1) (by decide) rfl ?_)
  exact nE_zret (ty := .boolean) dX9_isHouse_15 rfl (nh_nb _) h
theorem p_X9_isHouse (x : Int32) {σ : nh_S} {Q : Option Value → nh_S → Prop} (h : Q (some (.int (if ¬ (x < 0) ∧ ¬ ((σ.2.1 9 0) - 1 < x) then 1 else 0))) σ) : nh_E kX9_isHouse 0 [some (.ref 0), some (.int x)] [] σ Q := sg_X9_isHouse_0 x h
set_option maxRecDepth 20000 in
theorem sg_X9_isPart_0 (x1 : Int32) {σ : nh_S} {Q : Option Value → nh_S → Prop} (h : Q (some (.int (if ¬ (x1 < 0) ∧ ¬ (((σ.2.1 9 1) - 1) < x1) then 1 else 0))) σ) : nh_E kX9_isPart 0 [some (.ref 0), some (.int x1)] [] σ Q := by
  refine nE_iload_n dX9_isPart_0 rfl rfl ?_
  refine nE_i2l dX9_isPart_1 ?_
  refine nE_lconst (v := 0) dX9_isPart_2 (by decide) ?_
  refine nE_aload_n dX9_isPart_3 rfl rfl ?_
  refine nE_getC fl_X9_35 sR_0 rfl dX9_isPart_4 ?_
  refine nE_iconst (v := 1) dX9_isPart_7 (by decide) ?_
  refine nG_iald (j := 1) sR_9 (by decide) dX9_isPart_8 ⟨(nh_vi (by decide)), ?_⟩
  refine nE_iconst (v := 1) dX9_isPart_9 (by decide) ?_
  refine nE_isub dX9_isPart_10 ?_
  refine nE_i2l dX9_isPart_11 ?_
  refine nE_callS (As := [.long x1.toInt64, .long 0, .long (((σ.2.1 9 1) - 1).toInt64)]) yf_X9_in ⟨by decide, by decide⟩ rfl sl_X9_95 dX9_isPart_12 rfl rfl (Nat.le_of_ble_eq_true rfl) (Nat.le_of_ble_eq_true rfl) (p_X9_in x1 0 ((σ.2.1 9 1) - 1) (by decide) rfl ?_)
  exact nE_zret (ty := .boolean) dX9_isPart_15 rfl (nh_nb _) h
theorem p_X9_isPart (x : Int32) {σ : nh_S} {Q : Option Value → nh_S → Prop} (h : Q (some (.int (if ¬ (x < 0) ∧ ¬ ((σ.2.1 9 1) - 1 < x) then 1 else 0))) σ) : nh_E kX9_isPart 0 [some (.ref 0), some (.int x)] [] σ Q := sg_X9_isPart_0 x h
set_option maxRecDepth 20000 in
theorem sg_X9_isParts_0 (x1 : Int32) {σ : nh_S} {Q : Option Value → nh_S → Prop} (h : Q (some (.int (if ¬ (x1 < 0) ∧ ¬ (((1 <<< ((σ.2.1 9 1) &&& 31)) - 1) < x1) then 1 else 0))) σ) : nh_E kX9_isParts 0 [some (.ref 0), some (.int x1)] [] σ Q := by
  refine nE_iload_n dX9_isParts_0 rfl rfl ?_
  refine nE_i2l dX9_isParts_1 ?_
  refine nE_lconst (v := 0) dX9_isParts_2 (by decide) ?_
  refine nE_iconst (v := 1) dX9_isParts_3 (by decide) ?_
  refine nE_aload_n dX9_isParts_4 rfl rfl ?_
  refine nE_getC fl_X9_35 sR_0 rfl dX9_isParts_5 ?_
  refine nE_iconst (v := 1) dX9_isParts_8 (by decide) ?_
  refine nG_iald (j := 1) sR_9 (by decide) dX9_isParts_9 ⟨(nh_vi (by decide)), ?_⟩
  refine nE_ishl dX9_isParts_10 ?_
  refine nE_iconst (v := 1) dX9_isParts_11 (by decide) ?_
  refine nE_isub dX9_isParts_12 ?_
  refine nE_i2l dX9_isParts_13 ?_
  refine nE_callS (As := [.long x1.toInt64, .long 0, .long (((1 <<< ((σ.2.1 9 1) &&& 31)) - 1).toInt64)]) yf_X9_in ⟨by decide, by decide⟩ rfl sl_X9_95 dX9_isParts_14 rfl rfl (Nat.le_of_ble_eq_true rfl) (Nat.le_of_ble_eq_true rfl) (p_X9_in x1 0 ((1 <<< ((σ.2.1 9 1) &&& 31)) - 1) (by decide) rfl ?_)
  exact nE_zret (ty := .boolean) dX9_isParts_17 rfl (nh_nb _) h
theorem p_X9_isParts (x : Int32) {σ : nh_S} {Q : Option Value → nh_S → Prop} (h : Q (some (.int (if ¬ (x < 0) ∧ ¬ ((1 <<< ((σ.2.1 9 1) &&& 31)) - 1 < x) then 1 else 0))) σ) : nh_E kX9_isParts 0 [some (.ref 0), some (.int x)] [] σ Q := sg_X9_isParts_0 x h
set_option maxRecDepth 20000 in
theorem sg_X9_isAway_0 (x0 : Int32) (x1 : Int32) (x2 : Int32) {σ : nh_S} {Q : Option Value → nh_S → Prop} (h : Q (some (.int (if ¬ (x0 = x2) ∧ (nh_hs x1 x0) then 1 else 0))) σ) : nh_E kX9_isAway 0 [some (.int x0), some (.int x1), some (.int x2)] [] σ Q := by
  refine nE_iload_n dX9_isAway_0 rfl rfl ?_
  refine nE_iload_n dX9_isAway_1 rfl rfl ?_
  have j1 : nh_E kX9_isAway 18 [some (.int x0), some (.int x1), some (.int x2)] [.int (if ¬ (x0 = x2) ∧ (nh_hs x1 x0) then 1 else 0)] σ Q := by
    exact nE_zret (ty := .boolean) dX9_isAway_18 rfl (nh_nb _) h
  refine nE_icmp_eq (tgt := 17) dX9_isAway_2 (by decide) ⟨fun c2 => ?_, fun c2 => ?_⟩
  · skip
    have f3 : (x0 = x2) = True := eq_true c2
    refine nE_iconst (v := 0) dX9_isAway_17 (by decide) ?_
    exact nh_topi (show ((if ¬ (x0 = x2) ∧ (nh_hs x1 x0) then 1 else 0) : Int32) = 0 from by simp only [if_true, if_false, not_true_eq_false, not_false_eq_true, true_and, and_true, false_and, and_false, true_or, or_true, false_or, or_false, if_pos, if_neg, ite_true, ite_false, f3]) j1
  · skip
    have f4 : (x0 = x2) = False := eq_false c2
    refine nE_iload_n dX9_isAway_5 rfl rfl ?_
    refine nE_iload_n dX9_isAway_6 rfl rfl ?_
    refine nE_callS (As := [.int x1, .int x0]) yf_X9_has ⟨by decide, by decide⟩ rfl sl_X9_146 dX9_isAway_7 rfl rfl (Nat.le_of_ble_eq_true rfl) (Nat.le_of_ble_eq_true rfl) (p_X9_has _ _ ?_)
    refine nE_ifb_eq (tgt := 17) dX9_isAway_10 (by decide) ⟨fun c5 => ?_, fun c5 => ?_⟩
    · skip
      have f6 : (nh_hs x1 x0) = False := eq_false c5
      refine nE_iconst (v := 0) dX9_isAway_17 (by decide) ?_
      exact nh_topi (show ((if ¬ (x0 = x2) ∧ (nh_hs x1 x0) then 1 else 0) : Int32) = 0 from by simp only [if_true, if_false, not_true_eq_false, not_false_eq_true, true_and, and_true, false_and, and_false, true_or, or_true, false_or, or_false, if_pos, if_neg, ite_true, ite_false, f4, f6]) j1
    · skip
      have f7 : (nh_hs x1 x0) = True := eq_true c5
      refine nE_iconst (v := 1) dX9_isAway_13 (by decide) ?_
      refine nE_goto (tgt := 18) dX9_isAway_14 (by decide) ?_
      exact nh_topi (show ((if ¬ (x0 = x2) ∧ (nh_hs x1 x0) then 1 else 0) : Int32) = 1 from by simp only [if_true, if_false, not_true_eq_false, not_false_eq_true, true_and, and_true, false_and, and_false, true_or, or_true, false_or, or_false, if_pos, if_neg, ite_true, ite_false, f4, f7]) j1
theorem p_X9_isAway (x a f : Int32) {σ : nh_S} {Q : Option Value → nh_S → Prop} (h : Q (some (.int (if ¬ (x = f) ∧ nh_hs a x then 1 else 0))) σ) : nh_E kX9_isAway 0 [some (.int x), some (.int a), some (.int f)] [] σ Q := sg_X9_isAway_0 x a f h
set_option maxRecDepth 20000 in
theorem sg_X9_allParts_0  {σ : nh_S} {Q : Option Value → nh_S → Prop} (h : Q (some (.int ((1 <<< ((σ.2.1 9 1) &&& 31)) - 1))) σ) : nh_E kX9_allParts 0 [some (.ref 0)] [] σ Q := by
  refine nE_iconst (v := 1) dX9_allParts_0 (by decide) ?_
  refine nE_aload_n dX9_allParts_1 rfl rfl ?_
  refine nE_getC fl_X9_35 sR_0 rfl dX9_allParts_2 ?_
  refine nE_iconst (v := 1) dX9_allParts_5 (by decide) ?_
  refine nG_iald (j := 1) sR_9 (by decide) dX9_allParts_6 ⟨(nh_vi (by decide)), ?_⟩
  refine nE_ishl dX9_allParts_7 ?_
  refine nE_iconst (v := 1) dX9_allParts_8 (by decide) ?_
  refine nE_isub dX9_allParts_9 ?_
  exact nE_iret dX9_allParts_10 rfl h
theorem p_X9_allParts {σ : nh_S} {Q : Option Value → nh_S → Prop} (h : Q (some (.int ((1 <<< ((σ.2.1 9 1) &&& 31)) - 1))) σ) : nh_E kX9_allParts 0 [some (.ref 0)] [] σ Q := sg_X9_allParts_0 h
set_option maxRecDepth 20000 in
theorem sg_X8_has_0 (x0 : Int32) (x1 : Int32) {σ : nh_S} {Q : Option Value → nh_S → Prop} (h : Q (some (.int (if (x0 >>> (x1 &&& 31)) &&& 1 = 1 then 1 else 0))) σ) : nh_E kX8_has 0 [some (.int x0), some (.int x1)] [] σ Q := by
  refine nE_iload_n dX8_has_0 rfl rfl ?_
  refine nE_iload_n dX8_has_1 rfl rfl ?_
  refine nE_ishr dX8_has_2 ?_
  refine nE_iconst (v := 1) dX8_has_3 (by decide) ?_
  refine nE_iand dX8_has_4 ?_
  refine nE_iconst (v := 1) dX8_has_5 (by decide) ?_
  have j1 : nh_E kX8_has 14 [some (.int x0), some (.int x1)] [.int (if (x0 >>> (x1 &&& 31)) &&& 1 = 1 then 1 else 0)] σ Q := by
    exact nE_zret (ty := .boolean) dX8_has_14 rfl (nh_nb _) h
  refine nE_icmp_ne (tgt := 13) dX8_has_6 (by decide) ⟨fun c2 => ?_, fun c2 => ?_⟩
  · skip
    have f3 : ((x0 >>> (x1 &&& 31)) &&& 1 = 1) = False := eq_false c2
    refine nE_iconst (v := 0) dX8_has_13 (by decide) ?_
    exact nh_topi (show ((if (x0 >>> (x1 &&& 31)) &&& 1 = 1 then 1 else 0) : Int32) = 0 from by simp only [if_true, if_false, not_true_eq_false, not_false_eq_true, true_and, and_true, false_and, and_false, true_or, or_true, false_or, or_false, if_pos, if_neg, ite_true, ite_false, f3]) j1
  · skip
    have f4 : ((x0 >>> (x1 &&& 31)) &&& 1 = 1) = True := eq_true c2
    refine nE_iconst (v := 1) dX8_has_9 (by decide) ?_
    refine nE_goto (tgt := 14) dX8_has_10 (by decide) ?_
    exact nh_topi (show ((if (x0 >>> (x1 &&& 31)) &&& 1 = 1 then 1 else 0) : Int32) = 1 from by simp only [if_true, if_false, not_true_eq_false, not_false_eq_true, true_and, and_true, false_and, and_false, true_or, or_true, false_or, or_false, if_pos, if_neg, ite_true, ite_false, f4]) j1
theorem p_X8_has (s k : Int32) {σ : nh_S} {Q : Option Value → nh_S → Prop} (h : Q (some (.int (if nh_hs s k then 1 else 0))) σ) : nh_E kX8_has 0 [some (.int s), some (.int k)] [] σ Q := sg_X8_has_0 s k h
set_option maxRecDepth 20000 in
theorem sg_X8_fullSet_0 (x0 : Int32) {σ : nh_S} {Q : Option Value → nh_S → Prop} (h : Q (some (.int ((1 <<< (x0 &&& 31)) - 1))) σ) : nh_E kX8_fullSet 0 [some (.int x0)] [] σ Q := by
  refine nE_iconst (v := 1) dX8_fullSet_0 (by decide) ?_
  refine nE_iload_n dX8_fullSet_1 rfl rfl ?_
  refine nE_ishl dX8_fullSet_2 ?_
  refine nE_iconst (v := 1) dX8_fullSet_3 (by decide) ?_
  refine nE_isub dX8_fullSet_4 ?_
  exact nE_iret dX8_fullSet_5 rfl h
theorem p_X8_fullSet (x : Int32) {σ : nh_S} {Q : Option Value → nh_S → Prop} (h : Q (some (.int ((1 <<< (x &&& 31)) - 1))) σ) : nh_E kX8_fullSet 0 [some (.int x)] [] σ Q := sg_X8_fullSet_0 x h
set_option maxRecDepth 20000 in
theorem sg_X8_beyond_0 (x0 : Int32) (x1 : Int32) {σ : nh_S} {Q : Option Value → nh_S → Prop} (h : Q (some (.int (if ¬ (x0 &&& (((1 <<< (x1 &&& 31)) - 1) ^^^ (-1)) = 0) then 1 else 0))) σ) : nh_E kX8_beyond 0 [some (.int x0), some (.int x1)] [] σ Q := by
  refine nE_iload_n dX8_beyond_0 rfl rfl ?_
  refine nE_iload_n dX8_beyond_1 rfl rfl ?_
  refine nE_callS (As := [.int x1]) yf_X8_fullSet ⟨by decide, by decide⟩ rfl sl_X8_208 dX8_beyond_2 rfl rfl (Nat.le_of_ble_eq_true rfl) (Nat.le_of_ble_eq_true rfl) (p_X8_fullSet _ ?_)
  refine nE_iconst (v := (-1)) dX8_beyond_5 (by decide) ?_
  refine nE_ixor dX8_beyond_6 ?_
  refine nE_iand dX8_beyond_7 ?_
  have j1 : nh_E kX8_beyond 16 [some (.int x0), some (.int x1)] [.int (if ¬ (x0 &&& (((1 <<< (x1 &&& 31)) - 1) ^^^ (-1)) = 0) then 1 else 0)] σ Q := by
    exact nE_zret (ty := .boolean) dX8_beyond_16 rfl (nh_nb _) h
  refine nE_if_eq (tgt := 15) dX8_beyond_8 (by decide) ⟨fun c2 => ?_, fun c2 => ?_⟩
  · skip
    have f3 : (x0 &&& (((1 <<< (x1 &&& 31)) - 1) ^^^ (-1)) = 0) = True := eq_true c2
    refine nE_iconst (v := 0) dX8_beyond_15 (by decide) ?_
    exact nh_topi (show ((if ¬ (x0 &&& (((1 <<< (x1 &&& 31)) - 1) ^^^ (-1)) = 0) then 1 else 0) : Int32) = 0 from by simp only [if_true, if_false, not_true_eq_false, not_false_eq_true, true_and, and_true, false_and, and_false, true_or, or_true, false_or, or_false, if_pos, if_neg, ite_true, ite_false, f3]) j1
  · skip
    have f4 : (x0 &&& (((1 <<< (x1 &&& 31)) - 1) ^^^ (-1)) = 0) = False := eq_false c2
    refine nE_iconst (v := 1) dX8_beyond_11 (by decide) ?_
    refine nE_goto (tgt := 16) dX8_beyond_12 (by decide) ?_
    exact nh_topi (show ((if ¬ (x0 &&& (((1 <<< (x1 &&& 31)) - 1) ^^^ (-1)) = 0) then 1 else 0) : Int32) = 1 from by simp only [if_true, if_false, not_true_eq_false, not_false_eq_true, true_and, and_true, false_and, and_false, true_or, or_true, false_or, or_false, if_pos, if_neg, ite_true, ite_false, f4]) j1
theorem p_X8_beyond (x n : Int32) {σ : nh_S} {Q : Option Value → nh_S → Prop} (h : Q (some (.int (if ¬ (x &&& (((1 <<< (n &&& 31)) - 1) ^^^ (-1)) = 0) then 1 else 0))) σ) : nh_E kX8_beyond 0 [some (.int x), some (.int n)] [] σ Q := sg_X8_beyond_0 x n h
set_option maxRecDepth 20000 in
theorem sg_X8_counted_0 (x0 : Int32) {σ : nh_S} {Q : Option Value → nh_S → Prop} (h : Q (some (.int (if x0 = (-1) then 500 else x0))) σ) : nh_E kX8_counted 0 [some (.int x0)] [] σ Q := by
  refine nE_iload_n dX8_counted_0 rfl rfl ?_
  refine nE_iconst (v := (-1)) dX8_counted_1 (by decide) ?_
  have j1 : nh_E kX8_counted 12 [some (.int x0)] [.int (if x0 = (-1) then 500 else x0)] σ Q := by
    exact nE_iret dX8_counted_12 rfl h
  refine nE_icmp_ne (tgt := 11) dX8_counted_2 (by decide) ⟨fun c2 => ?_, fun c2 => ?_⟩
  · skip
    have f3 : (x0 = (-1)) = False := eq_false c2
    refine nE_iload_n dX8_counted_11 rfl rfl ?_
    exact nh_topi (show ((if x0 = (-1) then 500 else x0) : Int32) = x0 from by simp only [if_true, if_false, not_true_eq_false, not_false_eq_true, true_and, and_true, false_and, and_false, true_or, or_true, false_or, or_false, if_pos, if_neg, ite_true, ite_false, f3]) j1
  · skip
    have f4 : (x0 = (-1)) = True := eq_true c2
    refine nE_sipush (v := 500) dX8_counted_5 (by decide) ?_
    refine nE_goto (tgt := 12) dX8_counted_8 (by decide) ?_
    exact nh_topi (show ((if x0 = (-1) then 500 else x0) : Int32) = 500 from by simp only [if_true, if_false, not_true_eq_false, not_false_eq_true, true_and, and_true, false_and, and_false, true_or, or_true, false_or, or_false, if_pos, if_neg, ite_true, ite_false, f4]) j1
theorem p_X8_counted (x : Int32) {σ : nh_S} {Q : Option Value → nh_S → Prop} (h : Q (some (.int (if x = (-1) then 500 else x))) σ) : nh_E kX8_counted 0 [some (.int x)] [] σ Q := sg_X8_counted_0 x h
set_option maxRecDepth 20000 in
theorem sg_X8_noHouse_0 (x1 : Int32) {σ : nh_S} {Q : Option Value → nh_S → Prop} (h : ((¬ (x1 < 0) → (isP (σ.2.2 0 11)))) ∧ Q (some (.int (if (x1 < 0) ∨ (¬ (x1 < σ.1 (σ.2.2 0 11) 0)) then 1 else 0))) σ) : nh_E kX8_noHouse 0 [some (.ref 0), some (.int x1)] [] σ Q := by
  refine nE_iload_n dX8_noHouse_0 rfl rfl ?_
  obtain ⟨u2, h⟩ := h
  have j3 : nh_E kX8_noHouse 20 [some (.ref 0), some (.int x1)] [.int (if (x1 < 0) ∨ (¬ (x1 < σ.1 (σ.2.2 0 11) 0)) then 1 else 0)] σ Q := by
    exact nE_zret (ty := .boolean) dX8_noHouse_20 rfl (nh_nb _) h
  have u4 := u2
  refine nE_if_lt (tgt := 15) dX8_noHouse_1 (by decide) ⟨fun c5 => ?_, fun c5 => ?_⟩
  · skip
    have f6 : (x1 < 0) = True := eq_true c5
    refine nE_iconst (v := 1) dX8_noHouse_15 (by decide) ?_
    refine nE_goto (tgt := 20) dX8_noHouse_16 (by decide) ?_
    exact nh_topi (show ((if (x1 < 0) ∨ (¬ (x1 < σ.1 (σ.2.2 0 11) 0)) then 1 else 0) : Int32) = 1 from by simp only [if_true, if_false, not_true_eq_false, not_false_eq_true, true_and, and_true, false_and, and_false, true_or, or_true, false_or, or_false, if_pos, if_neg, ite_true, ite_false, f6]) j3
  · skip
    have f7 : (x1 < 0) = False := eq_false c5
    have g1 := (u4 c5)
    refine nE_iload_n dX8_noHouse_4 rfl rfl ?_
    refine nE_aload_n dX8_noHouse_5 rfl rfl ?_
    refine nE_getR fl_X8_73 sC_0 rfl dX8_noHouse_6 ?_
    refine nE_getI fl_X8_117 (sP_0 g1) rfl dX8_noHouse_9 ?_
    refine nE_icmp_lt (tgt := 19) dX8_noHouse_12 (by decide) ⟨fun c8 => ?_, fun c8 => ?_⟩
    · skip
      have f9 : (x1 < σ.1 (σ.2.2 0 11) 0) = True := eq_true c8
      refine nE_iconst (v := 0) dX8_noHouse_19 (by decide) ?_
      exact nh_topi (show ((if (x1 < 0) ∨ (¬ (x1 < σ.1 (σ.2.2 0 11) 0)) then 1 else 0) : Int32) = 0 from by simp only [if_true, if_false, not_true_eq_false, not_false_eq_true, true_and, and_true, false_and, and_false, true_or, or_true, false_or, or_false, if_pos, if_neg, ite_true, ite_false, f7, f9]) j3
    · skip
      have f10 : (x1 < σ.1 (σ.2.2 0 11) 0) = False := eq_false c8
      refine nE_iconst (v := 1) dX8_noHouse_15 (by decide) ?_
      refine nE_goto (tgt := 20) dX8_noHouse_16 (by decide) ?_
      exact nh_topi (show ((if (x1 < 0) ∨ (¬ (x1 < σ.1 (σ.2.2 0 11) 0)) then 1 else 0) : Int32) = 1 from by simp only [if_true, if_false, not_true_eq_false, not_false_eq_true, true_and, and_true, false_and, and_false, true_or, or_true, false_or, or_false, if_pos, if_neg, ite_true, ite_false, f7, f10]) j3
theorem p_X8_noHouse (x : Int32) {σ : nh_S} (hp : isP (σ.2.2 0 11)) {Q : Option Value → nh_S → Prop} (h : Q (some (.int (if (x < 0) ∨ ¬ (x < σ.1 (σ.2.2 0 11) 0) then 1 else 0))) σ) : nh_E kX8_noHouse 0 [some (.ref 0), some (.int x)] [] σ Q := sg_X8_noHouse_0 x ⟨fun _ => hp, h⟩
set_option maxRecDepth 20000 in
theorem sg_X8_noPart_0 (x1 : Int32) {σ : nh_S} {Q : Option Value → nh_S → Prop} (h : ((¬ (x1 < 0) → (isP (σ.2.2 0 11)))) ∧ Q (some (.int (if (x1 < 0) ∨ (¬ (x1 < σ.1 (σ.2.2 0 11) 1)) then 1 else 0))) σ) : nh_E kX8_noPart 0 [some (.ref 0), some (.int x1)] [] σ Q := by
  refine nE_iload_n dX8_noPart_0 rfl rfl ?_
  obtain ⟨u2, h⟩ := h
  have j3 : nh_E kX8_noPart 20 [some (.ref 0), some (.int x1)] [.int (if (x1 < 0) ∨ (¬ (x1 < σ.1 (σ.2.2 0 11) 1)) then 1 else 0)] σ Q := by
    exact nE_zret (ty := .boolean) dX8_noPart_20 rfl (nh_nb _) h
  have u4 := u2
  refine nE_if_lt (tgt := 15) dX8_noPart_1 (by decide) ⟨fun c5 => ?_, fun c5 => ?_⟩
  · skip
    have f6 : (x1 < 0) = True := eq_true c5
    refine nE_iconst (v := 1) dX8_noPart_15 (by decide) ?_
    refine nE_goto (tgt := 20) dX8_noPart_16 (by decide) ?_
    exact nh_topi (show ((if (x1 < 0) ∨ (¬ (x1 < σ.1 (σ.2.2 0 11) 1)) then 1 else 0) : Int32) = 1 from by simp only [if_true, if_false, not_true_eq_false, not_false_eq_true, true_and, and_true, false_and, and_false, true_or, or_true, false_or, or_false, if_pos, if_neg, ite_true, ite_false, f6]) j3
  · skip
    have f7 : (x1 < 0) = False := eq_false c5
    have g1 := (u4 c5)
    refine nE_iload_n dX8_noPart_4 rfl rfl ?_
    refine nE_aload_n dX8_noPart_5 rfl rfl ?_
    refine nE_getR fl_X8_73 sC_0 rfl dX8_noPart_6 ?_
    refine nE_getI fl_X8_130 (sP_0 g1) rfl dX8_noPart_9 ?_
    refine nE_icmp_lt (tgt := 19) dX8_noPart_12 (by decide) ⟨fun c8 => ?_, fun c8 => ?_⟩
    · skip
      have f9 : (x1 < σ.1 (σ.2.2 0 11) 1) = True := eq_true c8
      refine nE_iconst (v := 0) dX8_noPart_19 (by decide) ?_
      exact nh_topi (show ((if (x1 < 0) ∨ (¬ (x1 < σ.1 (σ.2.2 0 11) 1)) then 1 else 0) : Int32) = 0 from by simp only [if_true, if_false, not_true_eq_false, not_false_eq_true, true_and, and_true, false_and, and_false, true_or, or_true, false_or, or_false, if_pos, if_neg, ite_true, ite_false, f7, f9]) j3
    · skip
      have f10 : (x1 < σ.1 (σ.2.2 0 11) 1) = False := eq_false c8
      refine nE_iconst (v := 1) dX8_noPart_15 (by decide) ?_
      refine nE_goto (tgt := 20) dX8_noPart_16 (by decide) ?_
      exact nh_topi (show ((if (x1 < 0) ∨ (¬ (x1 < σ.1 (σ.2.2 0 11) 1)) then 1 else 0) : Int32) = 1 from by simp only [if_true, if_false, not_true_eq_false, not_false_eq_true, true_and, and_true, false_and, and_false, true_or, or_true, false_or, or_false, if_pos, if_neg, ite_true, ite_false, f7, f10]) j3
theorem p_X8_noPart (x : Int32) {σ : nh_S} (hp : isP (σ.2.2 0 11)) {Q : Option Value → nh_S → Prop} (h : Q (some (.int (if (x < 0) ∨ ¬ (x < σ.1 (σ.2.2 0 11) 1) then 1 else 0))) σ) : nh_E kX8_noPart 0 [some (.ref 0), some (.int x)] [] σ Q := sg_X8_noPart_0 x ⟨fun _ => hp, h⟩
set_option maxRecDepth 20000 in
theorem sg_X3_allParts_0 {o : Nat} (ho : isP o) {σ : nh_S} {Q : Option Value → nh_S → Prop} (h : Q (some (.int ((1 <<< ((σ.1 o 1) &&& 31)) - 1))) σ) : nh_E kX3_allParts 0 [some (.ref o)] [] σ Q := by
  refine nE_aload_n dX3_allParts_0 rfl rfl ?_
  refine nE_getI fl_X3_73 (sP_0 ho) rfl dX3_allParts_1 ?_
  refine nE_callN (As := [.int (σ.1 o 1)]) yf_X8_fullSet ⟨by decide, by decide⟩ rfl nl_X3_77 dX3_allParts_4 rfl rfl (Nat.le_of_ble_eq_true rfl) (Nat.le_of_ble_eq_true rfl) (p_X8_fullSet _ ?_)
  exact nE_iret dX3_allParts_7 rfl h
theorem p_X3_allParts {o : Nat} (ho : isP o) {σ : nh_S} {Q : Option Value → nh_S → Prop} (h : Q (some (.int ((1 <<< ((σ.1 o 1) &&& 31)) - 1))) σ) : nh_E kX3_allParts 0 [some (.ref o)] [] σ Q := sg_X3_allParts_0 ho h
set_option maxRecDepth 20000 in
theorem sg_X6_isSound_0  {σ : nh_S} {Q : Option Value → nh_S → Prop} (h : Q (some (.int (if σ.1 1 3 = 0 then 1 else 0))) σ) : nh_E kX6_isSound 0 [some (.ref 1)] [] σ Q := by
  refine nE_aload_n dX6_isSound_0 rfl rfl ?_
  refine nE_getI fl_X6_30 sC_1 rfl dX6_isSound_1 ?_
  have j1 : nh_E kX6_isSound 12 [some (.ref 1)] [.int (if σ.1 1 3 = 0 then 1 else 0)] σ Q := by
    exact nE_zret (ty := .boolean) dX6_isSound_12 rfl (nh_nb _) h
  refine nE_if_ne (tgt := 11) dX6_isSound_4 (by decide) ⟨fun c2 => ?_, fun c2 => ?_⟩
  · skip
    have f3 : (σ.1 1 3 = 0) = False := eq_false c2
    refine nE_iconst (v := 0) dX6_isSound_11 (by decide) ?_
    exact nh_topi (show ((if σ.1 1 3 = 0 then 1 else 0) : Int32) = 0 from by simp only [if_true, if_false, not_true_eq_false, not_false_eq_true, true_and, and_true, false_and, and_false, true_or, or_true, false_or, or_false, if_pos, if_neg, ite_true, ite_false, f3]) j1
  · skip
    have f4 : (σ.1 1 3 = 0) = True := eq_true c2
    refine nE_iconst (v := 1) dX6_isSound_7 (by decide) ?_
    refine nE_goto (tgt := 12) dX6_isSound_8 (by decide) ?_
    exact nh_topi (show ((if σ.1 1 3 = 0 then 1 else 0) : Int32) = 1 from by simp only [if_true, if_false, not_true_eq_false, not_false_eq_true, true_and, and_true, false_and, and_false, true_or, or_true, false_or, or_false, if_pos, if_neg, ite_true, ite_false, f4]) j1
theorem p_X6_isSound {σ : nh_S} {Q : Option Value → nh_S → Prop} (h : Q (some (.int (if σ.1 1 3 = 0 then 1 else 0))) σ) : nh_E kX6_isSound 0 [some (.ref 1)] [] σ Q := sg_X6_isSound_0 h
set_option maxRecDepth 20000 in
theorem sg_X6_isLetter_0 (x0 : Int32) {σ : nh_S} {Q : Option Value → nh_S → Prop} (h : Q (some (.int (if ¬ (x0 < 97) ∧ (¬ (122 < x0)) then 1 else 0))) σ) : nh_E kX6_isLetter 0 [some (.int x0)] [] σ Q := by
  refine nE_iload_n dX6_isLetter_0 rfl rfl ?_
  refine nE_bipush (v := 97) dX6_isLetter_1 (by decide) ?_
  have j1 : nh_E kX6_isLetter 17 [some (.int x0)] [.int (if ¬ (x0 < 97) ∧ (¬ (122 < x0)) then 1 else 0)] σ Q := by
    exact nE_zret (ty := .boolean) dX6_isLetter_17 rfl (nh_nb _) h
  refine nE_icmp_lt (tgt := 16) dX6_isLetter_3 (by decide) ⟨fun c2 => ?_, fun c2 => ?_⟩
  · skip
    have f3 : (x0 < 97) = True := eq_true c2
    refine nE_iconst (v := 0) dX6_isLetter_16 (by decide) ?_
    exact nh_topi (show ((if ¬ (x0 < 97) ∧ (¬ (122 < x0)) then 1 else 0) : Int32) = 0 from by simp only [if_true, if_false, not_true_eq_false, not_false_eq_true, true_and, and_true, false_and, and_false, true_or, or_true, false_or, or_false, if_pos, if_neg, ite_true, ite_false, f3]) j1
  · skip
    have f4 : (x0 < 97) = False := eq_false c2
    refine nE_iload_n dX6_isLetter_6 rfl rfl ?_
    refine nE_bipush (v := 122) dX6_isLetter_7 (by decide) ?_
    refine nE_icmp_gt (tgt := 16) dX6_isLetter_9 (by decide) ⟨fun c5 => ?_, fun c5 => ?_⟩
    · skip
      have f6 : (122 < x0) = True := eq_true c5
      refine nE_iconst (v := 0) dX6_isLetter_16 (by decide) ?_
      exact nh_topi (show ((if ¬ (x0 < 97) ∧ (¬ (122 < x0)) then 1 else 0) : Int32) = 0 from by simp only [if_true, if_false, not_true_eq_false, not_false_eq_true, true_and, and_true, false_and, and_false, true_or, or_true, false_or, or_false, if_pos, if_neg, ite_true, ite_false, f4, f6]) j1
    · skip
      have f7 : (122 < x0) = False := eq_false c5
      refine nE_iconst (v := 1) dX6_isLetter_12 (by decide) ?_
      refine nE_goto (tgt := 17) dX6_isLetter_13 (by decide) ?_
      exact nh_topi (show ((if ¬ (x0 < 97) ∧ (¬ (122 < x0)) then 1 else 0) : Int32) = 1 from by simp only [if_true, if_false, not_true_eq_false, not_false_eq_true, true_and, and_true, false_and, and_false, true_or, or_true, false_or, or_false, if_pos, if_neg, ite_true, ite_false, f4, f7]) j1
theorem p_X6_isLetter (x : Int32) {σ : nh_S} {Q : Option Value → nh_S → Prop} (h : Q (some (.int (if ¬ (x < 97) ∧ ¬ (122 < x) then 1 else 0))) σ) : nh_E kX6_isLetter 0 [some (.int x)] [] σ Q := sg_X6_isLetter_0 x h
set_option maxRecDepth 20000 in
theorem sg_X6_isFigure_0 (x0 : Int32) {σ : nh_S} {Q : Option Value → nh_S → Prop} (h : Q (some (.int (if ¬ (x0 < 48) ∧ (¬ (57 < x0)) then 1 else 0))) σ) : nh_E kX6_isFigure 0 [some (.int x0)] [] σ Q := by
  refine nE_iload_n dX6_isFigure_0 rfl rfl ?_
  refine nE_bipush (v := 48) dX6_isFigure_1 (by decide) ?_
  have j1 : nh_E kX6_isFigure 17 [some (.int x0)] [.int (if ¬ (x0 < 48) ∧ (¬ (57 < x0)) then 1 else 0)] σ Q := by
    exact nE_zret (ty := .boolean) dX6_isFigure_17 rfl (nh_nb _) h
  refine nE_icmp_lt (tgt := 16) dX6_isFigure_3 (by decide) ⟨fun c2 => ?_, fun c2 => ?_⟩
  · skip
    have f3 : (x0 < 48) = True := eq_true c2
    refine nE_iconst (v := 0) dX6_isFigure_16 (by decide) ?_
    exact nh_topi (show ((if ¬ (x0 < 48) ∧ (¬ (57 < x0)) then 1 else 0) : Int32) = 0 from by simp only [if_true, if_false, not_true_eq_false, not_false_eq_true, true_and, and_true, false_and, and_false, true_or, or_true, false_or, or_false, if_pos, if_neg, ite_true, ite_false, f3]) j1
  · skip
    have f4 : (x0 < 48) = False := eq_false c2
    refine nE_iload_n dX6_isFigure_6 rfl rfl ?_
    refine nE_bipush (v := 57) dX6_isFigure_7 (by decide) ?_
    refine nE_icmp_gt (tgt := 16) dX6_isFigure_9 (by decide) ⟨fun c5 => ?_, fun c5 => ?_⟩
    · skip
      have f6 : (57 < x0) = True := eq_true c5
      refine nE_iconst (v := 0) dX6_isFigure_16 (by decide) ?_
      exact nh_topi (show ((if ¬ (x0 < 48) ∧ (¬ (57 < x0)) then 1 else 0) : Int32) = 0 from by simp only [if_true, if_false, not_true_eq_false, not_false_eq_true, true_and, and_true, false_and, and_false, true_or, or_true, false_or, or_false, if_pos, if_neg, ite_true, ite_false, f4, f6]) j1
    · skip
      have f7 : (57 < x0) = False := eq_false c5
      refine nE_iconst (v := 1) dX6_isFigure_12 (by decide) ?_
      refine nE_goto (tgt := 17) dX6_isFigure_13 (by decide) ?_
      exact nh_topi (show ((if ¬ (x0 < 48) ∧ (¬ (57 < x0)) then 1 else 0) : Int32) = 1 from by simp only [if_true, if_false, not_true_eq_false, not_false_eq_true, true_and, and_true, false_and, and_false, true_or, or_true, false_or, or_false, if_pos, if_neg, ite_true, ite_false, f4, f7]) j1
theorem p_X6_isFigure (x : Int32) {σ : nh_S} {Q : Option Value → nh_S → Prop} (h : Q (some (.int (if ¬ (x < 48) ∧ ¬ (57 < x) then 1 else 0))) σ) : nh_E kX6_isFigure 0 [some (.int x)] [] σ Q := sg_X6_isFigure_0 x h
