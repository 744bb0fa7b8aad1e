set_option maxRecDepth 20000 in
theorem sg_X9_has_0 (x0 : Int32) (x1 : Int32) {σ : nh_S} {Q : Option Value → nh_S → Prop} (h : Q (some (.int (if (x0 >>> (x1 &&& 31)) &&& 1 = 1 then 1 else 0))) σ) : nh_E kX9_has 0 [some (.int x0), some (.int x1)] [] σ Q := by
  refine nE_iload_n dX9_has_0 rfl rfl ?_
  refine nE_iload_n dX9_has_1 rfl rfl ?_
  refine nE_ishr dX9_has_2 ?_
  refine nE_iconst (v := 1) dX9_has_3 (by decide) ?_
  refine nE_iand dX9_has_4 ?_
  refine nE_iconst (v := 1) dX9_has_5 (by decide) ?_
  have j1 : nh_E kX9_has 14 [some (.int x0), some (.int x1)] [.int (if (x0 >>> (x1 &&& 31)) &&& 1 = 1 then 1 else 0)] σ Q := by
    exact nE_zret (ty := .boolean) dX9_has_14 rfl (nh_nb _) h
  refine nE_icmp_ne (tgt := 13) dX9_has_6 (by decide) ⟨fun c2 => ?_, fun c2 => ?_⟩
  · skip
    have f3 : ((x0 >>> (x1 &&& 31)) &&& 1 = 1) = False := eq_false c2
    refine nE_iconst (v := 0) dX9_has_13 (by decide) ?_
    have hJ := j1
    simp only [if_true, if_false, not_true, not_false_eq_true, true_and, and_true, false_and, and_false, true_or, or_true, false_or, or_false, reduceIte, ite_true, ite_false, f3] at hJ
    exact hJ
  · skip
    have f4 : ((x0 >>> (x1 &&& 31)) &&& 1 = 1) = True := eq_true c2
    refine nE_iconst (v := 1) dX9_has_9 (by decide) ?_
    refine nE_goto (tgt := 14) dX9_has_10 (by decide) ?_
    have hJ := j1
    simp only [if_true, if_false, not_true, not_false_eq_true, true_and, and_true, false_and, and_false, true_or, or_true, false_or, or_false, reduceIte, ite_true, ite_false, f4] at hJ
    exact hJ
set_option maxRecDepth 20000 in
theorem sg_X9_one_0 (x0 : Int32) {σ : nh_S} {Q : Option Value → nh_S → Prop} (h : Q (some (.int (if ¬ (x0 = 0) then 1 else 0))) σ) : nh_E kX9_one 0 [some (.int x0)] [] σ Q := by
  refine nE_iload_n dX9_one_0 rfl rfl ?_
  have j1 : nh_E kX9_one 9 [some (.int x0)] [.int (if ¬ (x0 = 0) then 1 else 0)] σ Q := by
    exact nE_iret dX9_one_9 rfl h
  refine nE_if_eq (tgt := 8) dX9_one_1 (by decide) ⟨fun c2 => ?_, fun c2 => ?_⟩
  · skip
    have f3 : (x0 = 0) = True := eq_true c2
    refine nE_iconst (v := 0) dX9_one_8 (by decide) ?_
    have hJ := j1
    simp only [if_true, if_false, not_true, not_false_eq_true, true_and, and_true, false_and, and_false, true_or, or_true, false_or, or_false, reduceIte, ite_true, ite_false, f3] at hJ
    exact hJ
  · skip
    have f4 : (x0 = 0) = False := eq_false c2
    refine nE_iconst (v := 1) dX9_one_4 (by decide) ?_
    refine nE_goto (tgt := 9) dX9_one_5 (by decide) ?_
    have hJ := j1
    simp only [if_true, if_false, not_true, not_false_eq_true, true_and, and_true, false_and, and_false, true_or, or_true, false_or, or_false, reduceIte, ite_true, ite_false, f4] at hJ
    exact hJ
set_option maxRecDepth 20000 in
theorem sg_X9_in_0 (x0 : Int64) (x2 : Int64) (x4 : Int64) {σ : nh_S} {Q : Option Value → nh_S → Prop} (h : Q (some (.int (if ¬ (x0 < x2) ∧ (¬ (x4 < x0)) then 1 else 0))) σ) : nh_E kX9_in 0 [some (.long x0), none, some (.long x2), none, some (.long x4), none] [] σ Q := by
  refine nE_lload_n dX9_in_0 rfl rfl ?_
  refine nE_lload_n dX9_in_1 rfl rfl ?_
  refine nE_lcmp dX9_in_2 ?_
  have j1 : nh_E kX9_in 18 [some (.long x0), none, some (.long x2), none, some (.long x4), none] [.int (if ¬ (x0 < x2) ∧ (¬ (x4 < x0)) then 1 else 0)] σ Q := by
    exact nE_zret (ty := .boolean) dX9_in_18 rfl (nh_nb _) h
  refine nE_ifl_lt (tgt := 17) dX9_in_3 (by decide) ⟨fun c2 => ?_, fun c2 => ?_⟩
  · skip
    have f3 : (x0 < x2) = True := eq_true c2
    refine nE_iconst (v := 0) dX9_in_17 (by decide) ?_
    have hJ := j1
    simp only [if_true, if_false, not_true, not_false_eq_true, true_and, and_true, false_and, and_false, true_or, or_true, false_or, or_false, reduceIte, ite_true, ite_false, f3] at hJ
    exact hJ
  · skip
    have f4 : (x0 < x2) = False := eq_false c2
    refine nE_lload_n dX9_in_6 rfl rfl ?_
    refine nE_lload dX9_in_7 rfl ?_
    refine nE_lcmp dX9_in_9 ?_
    refine nE_ifl_gt (tgt := 17) dX9_in_10 (by decide) ⟨fun c5 => ?_, fun c5 => ?_⟩
    · skip
      have f6 : (x4 < x0) = True := eq_true c5
      refine nE_iconst (v := 0) dX9_in_17 (by decide) ?_
      have hJ := j1
      simp only [if_true, if_false, not_true, not_false_eq_true, true_and, and_true, false_and, and_false, true_or, or_true, false_or, or_false, reduceIte, ite_true, ite_false, f4, f6] at hJ
      exact hJ
    · skip
      have f7 : (x4 < x0) = False := eq_false c5
      refine nE_iconst (v := 1) dX9_in_13 (by decide) ?_
      refine nE_goto (tgt := 18) dX9_in_14 (by decide) ?_
      have hJ := j1
      simp only [if_true, if_false, not_true, not_false_eq_true, true_and, and_true, false_and, and_false, true_or, or_true, false_or, or_false, reduceIte, ite_true, ite_false, f4, f7] at hJ
      exact hJ
set_option maxRecDepth 20000 in
theorem sg_X9_ones_0 (x0 : Int32) {σ : nh_S} {Q : Option Value → nh_S → Prop} (h : nh_E kX9_ones 4 [some (.int x0), some (.int 0), some (.int 0)] [] σ Q) : nh_E kX9_ones 0 [some (.int x0), none, none] [] σ Q := by
  refine nE_iconst (v := 0) dX9_ones_0 (by decide) ?_
  refine nE_istore_n dX9_ones_1 rfl rfl (by decide) ?_
  refine nE_iconst (v := 0) dX9_ones_2 (by decide) ?_
  refine nE_istore_n dX9_ones_3 rfl rfl (by decide) ?_
  exact h
set_option maxRecDepth 20000 in
theorem sg_X9_ones_4 (x0 : Int32) (x1 : Int32) (x2 : Int32) {σ : nh_S} {Q : Option Value → nh_S → Prop} (h : (12 ≤ x2 → (Q (some (.int x1)) σ)) ∧ (¬ (12 ≤ x2) → (nh_E kX9_ones 4 [some (.int x0), some (.int (x1 + ((x0 >>> (x2 &&& 31)) &&& 1))), some (.int (x2 + 1))] [] σ Q))) : nh_E kX9_ones 4 [some (.int x0), some (.int x1), some (.int x2)] [] σ Q := by
  refine nE_iload_n dX9_ones_4 rfl rfl ?_
  refine nE_bipush (v := 12) dX9_ones_5 (by decide) ?_
  refine nE_icmp_ge (tgt := 24) dX9_ones_7 (by decide) ⟨fun c1 => ?_, fun c1 => ?_⟩
  · have h := h.1 c1
    refine nE_iload_n dX9_ones_24 rfl rfl ?_
    exact nE_iret dX9_ones_25 rfl h
  · have h := h.2 c1
    refine nE_iload_n dX9_ones_10 rfl rfl ?_
    refine nE_iload_n dX9_ones_11 rfl rfl ?_
    refine nE_iload_n dX9_ones_12 rfl rfl ?_
    refine nE_ishr dX9_ones_13 ?_
    refine nE_iconst (v := 1) dX9_ones_14 (by decide) ?_
    refine nE_iand dX9_ones_15 ?_
    refine nE_iadd dX9_ones_16 ?_
    refine nE_istore_n dX9_ones_17 rfl rfl (by decide) ?_
    refine nE_iinc (v := x2 + 1) dX9_ones_18 rfl rfl (by decide) rfl ?_
    refine nE_goto (tgt := 4) dX9_ones_21 (by decide) ?_
    exact h
set_option maxRecDepth 20000 in
theorem sg_X9_held_0 (x0 : Int32) {σ : nh_S} {Q : Option Value → nh_S → Prop} (h : Q (some (.int (if 0 ≤ x0 then x0 else 500))) σ) : nh_E kX9_held 0 [some (.int x0)] [] σ Q := by
  refine nE_iload_n dX9_held_0 rfl rfl ?_
  have j1 : nh_E kX9_held 11 [some (.int x0)] [.int (if 0 ≤ x0 then x0 else 500)] σ Q := by
    exact nE_iret dX9_held_11 rfl h
  refine nE_if_ge (tgt := 10) dX9_held_1 (by decide) ⟨fun c2 => ?_, fun c2 => ?_⟩
  · skip
    have f3 : (0 ≤ x0) = True := eq_true c2
    refine nE_iload_n dX9_held_10 rfl rfl ?_
    have hJ := j1
    simp only [if_true, if_false, not_true, not_false_eq_true, true_and, and_true, false_and, and_false, true_or, or_true, false_or, or_false, reduceIte, ite_true, ite_false, f3] at hJ
    exact hJ
  · skip
    have f4 : (0 ≤ x0) = False := eq_false c2
    refine nE_sipush (v := 500) dX9_held_4 (by decide) ?_
    refine nE_goto (tgt := 11) dX9_held_7 (by decide) ?_
    have hJ := j1
    simp only [if_true, if_false, not_true, not_false_eq_true, true_and, and_true, false_and, and_false, true_or, or_true, false_or, or_false, reduceIte, ite_true, ite_false, f4] at hJ
    exact hJ
set_option maxRecDepth 20000 in
theorem sg_X9_putIn_0 (x1 : Int32) {σ : nh_S} {Q : Option Value → nh_S → Prop} (h : nh_E kX9_putIn 7 [some (.ref 0), some (.int x1), some (.int 0), none, none] [] (nh_si σ 0 31 0) Q) : nh_E kX9_putIn 0 [some (.ref 0), some (.int x1), none, none, none] [] σ Q := by
  refine nE_aload_n dX9_putIn_0 rfl rfl ?_
  refine nE_iconst (v := 0) dX9_putIn_1 (by decide) ?_
  refine nE_putI fl_X9_226 sR_0 rfl ⟨rfl, rfl⟩ dX9_putIn_2 ?_
  refine nE_iconst (v := 0) dX9_putIn_5 (by decide) ?_
  refine nE_istore_n dX9_putIn_6 rfl rfl (by decide) ?_
  exact h
set_option maxRecDepth 20000 in
theorem sg_X9_putIn_7 (x1 : Int32) (x2 : Int32) {σ : nh_S} {Q : Option Value → nh_S → Prop} (h : (σ.2.1 9 1 ≤ x2 → (nh_E kX9_putIn 199 [some (.ref 0), none, some (.int 0), some (.int 0), none] [] σ Q)) ∧ (¬ (σ.2.1 9 1 ≤ x2) → (nh_E kX9_has 0 [some (.int x1), some (.int x2)] [] σ (nh_qi fun r3 τ2 => (r3 = 0 → (nh_E kX9_putIn 7 [some (.ref 0), some (.int x1), some (.int (x2 + 1)), none, none] [] τ2 Q)) ∧ (¬ (r3 = 0) → ((vp_in x2 12) ∧ (0 ≤ τ2.2.1 18 x2.toNatClampNeg → (nh_E kX9_putIn 50 [some (.ref 0), some (.int x1), some (.int x2), some (.int 0), none] [] (nh_wa τ2 19 x2.toNatClampNeg (τ2.2.1 18 x2.toNatClampNeg)) Q)) ∧ (¬ (0 ≤ τ2.2.1 18 x2.toNatClampNeg) → (Q (some (.int (-1))) τ2)))))))) : nh_E kX9_putIn 7 [some (.ref 0), some (.int x1), some (.int x2), none, none] [] σ Q := by
  refine nE_iload_n dX9_putIn_7 rfl rfl ?_
  refine nE_aload_n dX9_putIn_8 rfl rfl ?_
  refine nE_getC fl_X9_35 sR_0 rfl dX9_putIn_9 ?_
  refine nE_iconst (v := 1) dX9_putIn_12 (by decide) ?_
  refine nG_iald (j := 1) sR_9 (by decide) dX9_putIn_13 ⟨(nh_vi (by decide)), ?_⟩
  refine nE_icmp_ge (tgt := 195) dX9_putIn_14 (by decide) ⟨fun c1 => ?_, fun c1 => ?_⟩
  · have h := h.1 c1
    refine nE_iconst (v := 0) dX9_putIn_195 (by decide) ?_
    refine nE_istore_n dX9_putIn_196 rfl rfl (by decide) ?_
    refine nE_iconst (v := 0) dX9_putIn_197 (by decide) ?_
    refine nE_istore_n dX9_putIn_198 rfl rfl (by decide) ?_
    refine nE_weak 1 ?_
    exact h
  · have h := h.2 c1
    refine nE_iload_n dX9_putIn_17 rfl rfl ?_
    refine nE_iload_n dX9_putIn_18 rfl rfl ?_
    refine nE_callS (As := [.int x1, .int x2]) yf_X9_has ⟨by decide, by decide⟩ rfl sl_X9_146 dX9_putIn_19 rfl rfl (Nat.le_of_ble_eq_true rfl) (Nat.le_of_ble_eq_true rfl) (nE_mono (fun z4 τ2 h => ?_) h)
    obtain ⟨r3, rfl, h⟩ := h
    refine nE_if_eq (tgt := 189) dX9_putIn_22 (by decide) ⟨fun c5 => ?_, fun c5 => ?_⟩
    · have h := h.1 c5
      refine nE_iinc (v := x2 + 1) dX9_putIn_189 rfl rfl (by decide) rfl ?_
      refine nE_goto (tgt := 7) dX9_putIn_192 (by decide) ?_
      exact h
    · have h := h.2 c5
      refine nE_aload_n dX9_putIn_25 rfl rfl ?_
      refine nE_getC fl_X9_66 sR_0 rfl dX9_putIn_26 ?_
      refine nE_iload_n dX9_putIn_29 rfl rfl ?_
      obtain ⟨g6, h⟩ := h
      refine nG_iald (j := x2.toNatClampNeg) sR_18 rfl dX9_putIn_30 ⟨g6, ?_⟩
      refine nE_if_ge (tgt := 36) dX9_putIn_31 (by decide) ⟨fun c7 => ?_, fun c7 => ?_⟩
      · have h := h.1 c7
        refine nE_aload_n dX9_putIn_36 rfl rfl ?_
        refine nE_getC fl_X9_69 sR_0 rfl dX9_putIn_37 ?_
        refine nE_iload_n dX9_putIn_40 rfl rfl ?_
        refine nE_aload_n dX9_putIn_41 rfl rfl ?_
        refine nE_getC fl_X9_66 sR_0 rfl dX9_putIn_42 ?_
        refine nE_iload_n dX9_putIn_45 rfl rfl ?_
        refine nG_iald (j := x2.toNatClampNeg) sR_18 rfl dX9_putIn_46 ⟨g6, ?_⟩
        refine nG_iast (j := x2.toNatClampNeg) sR_19 rfl dX9_putIn_47 ⟨g6, ?_⟩
        refine nE_iconst (v := 0) dX9_putIn_48 (by decide) ?_
        refine nE_istore_n dX9_putIn_49 rfl rfl (by decide) ?_
        exact h
      · have h := h.2 c7
        refine nE_iconst (v := (-1)) dX9_putIn_34 (by decide) ?_
        exact nE_iret dX9_putIn_35 rfl h
set_option maxRecDepth 20000 in
theorem sg_X9_putIn_50 (x1 : Int32) (x2 : Int32) (x3 : Int32) {σ : nh_S} {Q : Option Value → nh_S → Prop} (h : (x2 ≤ x3 → (nh_E kX9_putIn 126 [some (.ref 0), some (.int x1), some (.int x2), some (.int (σ.1 0 31)), none] [] σ Q)) ∧ (¬ (x2 ≤ x3) → ((vp_in x2 24) ∧ nh_E kX9_has 0 [some (.int (σ.2.1 8 x2.toNatClampNeg)), some (.int x3)] [] σ (nh_qi fun r4 τ3 => ((¬ (r4 = 0) → (vp_in x3 12) ∧ (vp_in x3 24))) ∧ (vp_in x2 12) ∧ nh_E kX9_putIn 50 [some (.ref 0), some (.int x1), some (.int x2), some (.int (x3 + 1)), none] [] (nh_wa τ3 19 x2.toNatClampNeg (if (if r4 = 0 then 0 else (τ3.2.1 19 x3.toNatClampNeg) + (τ3.2.1 6 x3.toNatClampNeg)) ≤ τ3.2.1 19 x2.toNatClampNeg then τ3.2.1 19 x2.toNatClampNeg else (if r4 = 0 then 0 else (τ3.2.1 19 x3.toNatClampNeg) + (τ3.2.1 6 x3.toNatClampNeg)))) Q)))) : nh_E kX9_putIn 50 [some (.ref 0), some (.int x1), some (.int x2), some (.int x3), none] [] σ Q := by
  refine nE_iload_n dX9_putIn_50 rfl rfl ?_
  refine nE_iload_n dX9_putIn_51 rfl rfl ?_
  refine nE_icmp_ge (tgt := 121) dX9_putIn_52 (by decide) ⟨fun c1 => ?_, fun c1 => ?_⟩
  · have h := h.1 c1
    refine nE_aload_n dX9_putIn_121 rfl rfl ?_
    refine nE_getI fl_X9_226 sR_0 rfl dX9_putIn_122 ?_
    refine nE_istore_n dX9_putIn_125 rfl rfl (by decide) ?_
    exact h
  · have h := h.2 c1
    refine nE_aload_n dX9_putIn_55 rfl rfl ?_
    refine nE_getC fl_X9_32 sR_0 rfl dX9_putIn_56 ?_
    refine nE_iload_n dX9_putIn_59 rfl rfl ?_
    obtain ⟨g2, h⟩ := h
    refine nG_iald (j := x2.toNatClampNeg) sR_8 rfl dX9_putIn_60 ⟨g2, ?_⟩
    refine nE_iload_n dX9_putIn_61 rfl rfl ?_
    refine nE_callS (As := [.int (σ.2.1 8 x2.toNatClampNeg), .int x3]) yf_X9_has ⟨by decide, by decide⟩ rfl sl_X9_146 dX9_putIn_62 rfl rfl (Nat.le_of_ble_eq_true rfl) (Nat.le_of_ble_eq_true rfl) (nE_mono (fun z5 τ3 h => ?_) h)
    obtain ⟨r4, rfl, h⟩ := h
    obtain ⟨u8, h⟩ := h
    have j14 : nh_E kX9_putIn 85 [some (.ref 0), some (.int x1), some (.int x2), some (.int x3), none] [.int (if r4 = 0 then 0 else (τ3.2.1 19 x3.toNatClampNeg) + (τ3.2.1 6 x3.toNatClampNeg))] τ3 Q := by
      refine nE_istore dX9_putIn_85 rfl (by decide) ?_
      refine nE_aload_n dX9_putIn_87 rfl rfl ?_
      refine nE_getC fl_X9_69 sR_0 rfl dX9_putIn_88 ?_
      refine nE_iload_n dX9_putIn_91 rfl rfl ?_
      refine nE_iload dX9_putIn_92 rfl ?_
      refine nE_aload_n dX9_putIn_94 rfl rfl ?_
      refine nE_getC fl_X9_69 sR_0 rfl dX9_putIn_95 ?_
      refine nE_iload_n dX9_putIn_98 rfl rfl ?_
      obtain ⟨g9, h⟩ := h
      refine nG_iald (j := x2.toNatClampNeg) sR_19 rfl dX9_putIn_99 ⟨g9, ?_⟩
      have j10 : nh_E kX9_putIn 114 [some (.ref 0), some (.int x1), some (.int x2), some (.int x3), some (.int (if r4 = 0 then 0 else (τ3.2.1 19 x3.toNatClampNeg) + (τ3.2.1 6 x3.toNatClampNeg)))] [.int (if (if r4 = 0 then 0 else (τ3.2.1 19 x3.toNatClampNeg) + (τ3.2.1 6 x3.toNatClampNeg)) ≤ τ3.2.1 19 x2.toNatClampNeg then τ3.2.1 19 x2.toNatClampNeg else (if r4 = 0 then 0 else (τ3.2.1 19 x3.toNatClampNeg) + (τ3.2.1 6 x3.toNatClampNeg))), .int x2, .ref 19] τ3 Q := by
        refine nG_iast (j := x2.toNatClampNeg) sR_19 rfl dX9_putIn_114 ⟨g9, ?_⟩
        refine nE_iinc (v := x3 + 1) dX9_putIn_115 rfl rfl (by decide) rfl ?_
        refine nE_goto (tgt := 50) dX9_putIn_118 (by decide) ?_
        refine nE_weak 4 ?_
        exact h
      refine nE_icmp_le (tgt := 108) dX9_putIn_100 (by decide) ⟨fun c11 => ?_, fun c11 => ?_⟩
      · skip
        have f12 : ((if r4 = 0 then 0 else (τ3.2.1 19 x3.toNatClampNeg) + (τ3.2.1 6 x3.toNatClampNeg)) ≤ τ3.2.1 19 x2.toNatClampNeg) = True := eq_true c11
        refine nE_aload_n dX9_putIn_108 rfl rfl ?_
        refine nE_getC fl_X9_69 sR_0 rfl dX9_putIn_109 ?_
        refine nE_iload_n dX9_putIn_112 rfl rfl ?_
        refine nG_iald (j := x2.toNatClampNeg) sR_19 rfl dX9_putIn_113 ⟨g9, ?_⟩
        have hJ := j10
        simp only [if_true, if_false, not_true, not_false_eq_true, true_and, and_true, false_and, and_false, true_or, or_true, false_or, or_false, reduceIte, ite_true, ite_false, f12] at hJ
        exact hJ
      · skip
        have f13 : ((if r4 = 0 then 0 else (τ3.2.1 19 x3.toNatClampNeg) + (τ3.2.1 6 x3.toNatClampNeg)) ≤ τ3.2.1 19 x2.toNatClampNeg) = False := eq_false c11
        refine nE_iload dX9_putIn_103 rfl ?_
        refine nE_goto (tgt := 114) dX9_putIn_105 (by decide) ?_
        have hJ := j10
        simp only [if_true, if_false, not_true, not_false_eq_true, true_and, and_true, false_and, and_false, true_or, or_true, false_or, or_false, reduceIte, ite_true, ite_false, f13] at hJ
        exact hJ
    have u15 := u8
    refine nE_if_eq (tgt := 84) dX9_putIn_65 (by decide) ⟨fun c16 => ?_, fun c16 => ?_⟩
    · skip
      have f17 : (r4 = 0) = True := eq_true c16
      refine nE_iconst (v := 0) dX9_putIn_84 (by decide) ?_
      have hJ := j14
      simp only [if_true, if_false, not_true, not_false_eq_true, true_and, and_true, false_and, and_false, true_or, or_true, false_or, or_false, reduceIte, ite_true, ite_false, f17] at hJ
      exact hJ
    · skip
      have f18 : (r4 = 0) = False := eq_false c16
      obtain ⟨g6, g7⟩ := (u15 c16)
      refine nE_aload_n dX9_putIn_68 rfl rfl ?_
      refine nE_getC fl_X9_69 sR_0 rfl dX9_putIn_69 ?_
      refine nE_iload_n dX9_putIn_72 rfl rfl ?_
      refine nG_iald (j := x3.toNatClampNeg) sR_19 rfl dX9_putIn_73 ⟨g6, ?_⟩
      refine nE_aload_n dX9_putIn_74 rfl rfl ?_
      refine nE_getC fl_X9_26 sR_0 rfl dX9_putIn_75 ?_
      refine nE_iload_n dX9_putIn_78 rfl rfl ?_
      refine nG_iald (j := x3.toNatClampNeg) sR_6 rfl dX9_putIn_79 ⟨g7, ?_⟩
      refine nE_iadd dX9_putIn_80 ?_
      refine nE_goto (tgt := 85) dX9_putIn_81 (by decide) ?_
      have hJ := j14
      simp only [if_true, if_false, not_true, not_false_eq_true, true_and, and_true, false_and, and_false, true_or, or_true, false_or, or_false, reduceIte, ite_true, ite_false, f18] at hJ
      exact hJ
set_option maxRecDepth 20000 in
theorem sg_X9_putIn_199 (x2 : Int32) (x3 : Int32) {σ : nh_S} {Q : Option Value → nh_S → Prop} (h : (σ.1 0 31 ≤ x3 → (Q (some (.int x2)) σ)) ∧ (¬ (σ.1 0 31 ≤ x3) → ((vp_in x3 12) ∧ (vp_in (σ.2.1 20 x3.toNatClampNeg) 12) ∧ (vp_in (σ.2.1 20 x3.toNatClampNeg) 24) ∧ nh_E kX9_putIn 199 [some (.ref 0), none, some (.int ((((nh_wa σ 21 x3.toNatClampNeg (if σ.2.1 18 ((σ.2.1 20 x3.toNatClampNeg).toNatClampNeg) ≤ x2 then x2 else σ.2.1 18 ((σ.2.1 20 x3.toNatClampNeg).toNatClampNeg)))).2.1 21 x3.toNatClampNeg) + (σ.2.1 6 ((σ.2.1 20 x3.toNatClampNeg).toNatClampNeg)))), some (.int (x3 + 1)), none] [] (nh_wa σ 21 x3.toNatClampNeg (if σ.2.1 18 ((σ.2.1 20 x3.toNatClampNeg).toNatClampNeg) ≤ x2 then x2 else σ.2.1 18 ((σ.2.1 20 x3.toNatClampNeg).toNatClampNeg))) Q))) : nh_E kX9_putIn 199 [some (.ref 0), none, some (.int x2), some (.int x3), none] [] σ Q := by
  refine nE_iload_n dX9_putIn_199 rfl rfl ?_
  refine nE_aload_n dX9_putIn_200 rfl rfl ?_
  refine nE_getI fl_X9_226 sR_0 rfl dX9_putIn_201 ?_
  refine nE_icmp_ge (tgt := 264) dX9_putIn_204 (by decide) ⟨fun c1 => ?_, fun c1 => ?_⟩
  · have h := h.1 c1
    refine nE_iload_n dX9_putIn_264 rfl rfl ?_
    exact nE_iret dX9_putIn_265 rfl h
  · have h := h.2 c1
    refine nE_aload_n dX9_putIn_207 rfl rfl ?_
    refine nE_getC fl_X9_72 sR_0 rfl dX9_putIn_208 ?_
    refine nE_iload_n dX9_putIn_211 rfl rfl ?_
    obtain ⟨g2, h⟩ := h
    refine nG_iald (j := x3.toNatClampNeg) sR_20 rfl dX9_putIn_212 ⟨g2, ?_⟩
    refine nE_istore dX9_putIn_213 rfl (by decide) ?_
    refine nE_aload_n dX9_putIn_215 rfl rfl ?_
    refine nE_getC fl_X9_75 sR_0 rfl dX9_putIn_216 ?_
    refine nE_iload_n dX9_putIn_219 rfl rfl ?_
    refine nE_aload_n dX9_putIn_220 rfl rfl ?_
    refine nE_getC fl_X9_66 sR_0 rfl dX9_putIn_221 ?_
    refine nE_iload dX9_putIn_224 rfl ?_
    obtain ⟨g3, h⟩ := h
    refine nG_iald (j := (σ.2.1 20 x3.toNatClampNeg).toNatClampNeg) sR_18 rfl dX9_putIn_226 ⟨g3, ?_⟩
    refine nE_iload_n dX9_putIn_227 rfl rfl ?_
    have j5 : nh_E kX9_putIn 242 [some (.ref 0), none, some (.int x2), some (.int x3), some (.int (σ.2.1 20 x3.toNatClampNeg))] [.int (if σ.2.1 18 ((σ.2.1 20 x3.toNatClampNeg).toNatClampNeg) ≤ x2 then x2 else σ.2.1 18 ((σ.2.1 20 x3.toNatClampNeg).toNatClampNeg)), .int x3, .ref 21] σ Q := by
      refine nG_iast (j := x3.toNatClampNeg) sR_21 rfl dX9_putIn_242 ⟨g2, ?_⟩
      refine nE_aload_n dX9_putIn_243 rfl rfl ?_
      refine nE_getC fl_X9_75 sR_0 rfl dX9_putIn_244 ?_
      refine nE_iload_n dX9_putIn_247 rfl rfl ?_
      refine nG_iald (j := x3.toNatClampNeg) sR_21 rfl dX9_putIn_248 ⟨g2, ?_⟩
      refine nE_aload_n dX9_putIn_249 rfl rfl ?_
      refine nE_getC fl_X9_26 sR_0 rfl dX9_putIn_250 ?_
      refine nE_iload dX9_putIn_253 rfl ?_
      obtain ⟨g4, h⟩ := h
      refine nG_iald (j := (σ.2.1 20 x3.toNatClampNeg).toNatClampNeg) sR_6 rfl dX9_putIn_255 ⟨g4, ?_⟩
      refine nE_iadd dX9_putIn_256 ?_
      refine nE_istore_n dX9_putIn_257 rfl rfl (by decide) ?_
      refine nE_iinc (v := x3 + 1) dX9_putIn_258 rfl rfl (by decide) rfl ?_
      refine nE_goto (tgt := 199) dX9_putIn_261 (by decide) ?_
      refine nE_weak 4 ?_
      exact h
    refine nE_icmp_le (tgt := 241) dX9_putIn_228 (by decide) ⟨fun c6 => ?_, fun c6 => ?_⟩
    · skip
      have f7 : (σ.2.1 18 ((σ.2.1 20 x3.toNatClampNeg).toNatClampNeg) ≤ x2) = True := eq_true c6
      refine nE_iload_n dX9_putIn_241 rfl rfl ?_
      have hJ := j5
      simp only [if_true, if_false, not_true, not_false_eq_true, true_and, and_true, false_and, and_false, true_or, or_true, false_or, or_false, reduceIte, ite_true, ite_false, f7] at hJ
      exact hJ
    · skip
      have f8 : (σ.2.1 18 ((σ.2.1 20 x3.toNatClampNeg).toNatClampNeg) ≤ x2) = False := eq_false c6
      refine nE_aload_n dX9_putIn_231 rfl rfl ?_
      refine nE_getC fl_X9_66 sR_0 rfl dX9_putIn_232 ?_
      refine nE_iload dX9_putIn_235 rfl ?_
      refine nG_iald (j := (σ.2.1 20 x3.toNatClampNeg).toNatClampNeg) sR_18 rfl dX9_putIn_237 ⟨g3, ?_⟩
      refine nE_goto (tgt := 242) dX9_putIn_238 (by decide) ?_
      have hJ := j5
      simp only [if_true, if_false, not_true, not_false_eq_true, true_and, and_true, false_and, and_false, true_or, or_true, false_or, or_false, reduceIte, ite_true, ite_false, f8] at hJ
      exact hJ
set_option maxRecDepth 20000 in
theorem sg_X9_putIn_126 (x1 : Int32) (x2 : Int32) (x3 : Int32) {σ : nh_S} {Q : Option Value → nh_S → Prop} (h : (x3 ≤ 0 → ((vp_in x3 12) ∧ nh_E kX9_putIn 7 [some (.ref 0), some (.int x1), some (.int (x2 + 1)), none, none] [] (nh_si (nh_wa σ 20 x3.toNatClampNeg x2) 0 31 ((σ.1 0 31) + 1)) Q)) ∧ (¬ (x3 ≤ 0) → ((vp_in (x3 - 1) 12) ∧ (vp_in (σ.2.1 20 ((x3 - 1).toNatClampNeg)) 12) ∧ (vp_in x2 12) ∧ (σ.2.1 19 ((σ.2.1 20 ((x3 - 1).toNatClampNeg)).toNatClampNeg) ≤ σ.2.1 19 x2.toNatClampNeg → ((vp_in x3 12) ∧ nh_E kX9_putIn 7 [some (.ref 0), some (.int x1), some (.int (x2 + 1)), none, none] [] (nh_si (nh_wa σ 20 x3.toNatClampNeg x2) 0 31 ((σ.1 0 31) + 1)) Q)) ∧ (¬ (σ.2.1 19 ((σ.2.1 20 ((x3 - 1).toNatClampNeg)).toNatClampNeg) ≤ σ.2.1 19 x2.toNatClampNeg) → ((vp_in x3 12) ∧ nh_E kX9_putIn 126 [some (.ref 0), some (.int x1), some (.int x2), some (.int (x3 + (-1))), none] [] (nh_wa σ 20 x3.toNatClampNeg (σ.2.1 20 ((x3 - 1).toNatClampNeg))) Q))))) : nh_E kX9_putIn 126 [some (.ref 0), some (.int x1), some (.int x2), some (.int x3), none] [] σ Q := by
  refine nE_iload_n dX9_putIn_126 rfl rfl ?_
  refine nE_if_le (tgt := 172) dX9_putIn_127 (by decide) ⟨fun c1 => ?_, fun c1 => ?_⟩
  · have h := h.1 c1
    refine nE_aload_n dX9_putIn_172 rfl rfl ?_
    refine nE_getC fl_X9_72 sR_0 rfl dX9_putIn_173 ?_
    refine nE_iload_n dX9_putIn_176 rfl rfl ?_
    refine nE_iload_n dX9_putIn_177 rfl rfl ?_
    obtain ⟨g2, h⟩ := h
    refine nG_iast (j := x3.toNatClampNeg) sR_20 rfl dX9_putIn_178 ⟨g2, ?_⟩
    refine nE_aload_n dX9_putIn_179 rfl rfl ?_
    refine nE_dup dX9_putIn_180 rfl ?_
    refine nE_getI fl_X9_226 sR_0 rfl dX9_putIn_181 ?_
    refine nE_iconst (v := 1) dX9_putIn_184 (by decide) ?_
    refine nE_iadd dX9_putIn_185 ?_
    refine nE_putI fl_X9_226 sR_0 rfl ⟨rfl, rfl⟩ dX9_putIn_186 ?_
    refine nE_iinc (v := x2 + 1) dX9_putIn_189 rfl rfl (by decide) rfl ?_
    refine nE_goto (tgt := 7) dX9_putIn_192 (by decide) ?_
    refine nE_weak 3 ?_
    exact h
  · have h := h.2 c1
    refine nE_aload_n dX9_putIn_130 rfl rfl ?_
    refine nE_getC fl_X9_69 sR_0 rfl dX9_putIn_131 ?_
    refine nE_aload_n dX9_putIn_134 rfl rfl ?_
    refine nE_getC fl_X9_72 sR_0 rfl dX9_putIn_135 ?_
    refine nE_iload_n dX9_putIn_138 rfl rfl ?_
    refine nE_iconst (v := 1) dX9_putIn_139 (by decide) ?_
    refine nE_isub dX9_putIn_140 ?_
    obtain ⟨g3, h⟩ := h
    refine nG_iald (j := (x3 - 1).toNatClampNeg) sR_20 rfl dX9_putIn_141 ⟨g3, ?_⟩
    obtain ⟨g4, h⟩ := h
    refine nG_iald (j := (σ.2.1 20 ((x3 - 1).toNatClampNeg)).toNatClampNeg) sR_19 rfl dX9_putIn_142 ⟨g4, ?_⟩
    refine nE_aload_n dX9_putIn_143 rfl rfl ?_
    refine nE_getC fl_X9_69 sR_0 rfl dX9_putIn_144 ?_
    refine nE_iload_n dX9_putIn_147 rfl rfl ?_
    obtain ⟨g5, h⟩ := h
    refine nG_iald (j := x2.toNatClampNeg) sR_19 rfl dX9_putIn_148 ⟨g5, ?_⟩
    refine nE_icmp_le (tgt := 172) dX9_putIn_149 (by decide) ⟨fun c6 => ?_, fun c6 => ?_⟩
    · have h := h.1 c6
      refine nE_aload_n dX9_putIn_172 rfl rfl ?_
      refine nE_getC fl_X9_72 sR_0 rfl dX9_putIn_173 ?_
      refine nE_iload_n dX9_putIn_176 rfl rfl ?_
      refine nE_iload_n dX9_putIn_177 rfl rfl ?_
      obtain ⟨g7, h⟩ := h
      refine nG_iast (j := x3.toNatClampNeg) sR_20 rfl dX9_putIn_178 ⟨g7, ?_⟩
      refine nE_aload_n dX9_putIn_179 rfl rfl ?_
      refine nE_dup dX9_putIn_180 rfl ?_
      refine nE_getI fl_X9_226 sR_0 rfl dX9_putIn_181 ?_
      refine nE_iconst (v := 1) dX9_putIn_184 (by decide) ?_
      refine nE_iadd dX9_putIn_185 ?_
      refine nE_putI fl_X9_226 sR_0 rfl ⟨rfl, rfl⟩ dX9_putIn_186 ?_
      refine nE_iinc (v := x2 + 1) dX9_putIn_189 rfl rfl (by decide) rfl ?_
      refine nE_goto (tgt := 7) dX9_putIn_192 (by decide) ?_
      refine nE_weak 3 ?_
      exact h
    · have h := h.2 c6
      refine nE_aload_n dX9_putIn_152 rfl rfl ?_
      refine nE_getC fl_X9_72 sR_0 rfl dX9_putIn_153 ?_
      refine nE_iload_n dX9_putIn_156 rfl rfl ?_
      refine nE_aload_n dX9_putIn_157 rfl rfl ?_
      refine nE_getC fl_X9_72 sR_0 rfl dX9_putIn_158 ?_
      refine nE_iload_n dX9_putIn_161 rfl rfl ?_
      refine nE_iconst (v := 1) dX9_putIn_162 (by decide) ?_
      refine nE_isub dX9_putIn_163 ?_
      refine nG_iald (j := (x3 - 1).toNatClampNeg) sR_20 rfl dX9_putIn_164 ⟨g3, ?_⟩
      obtain ⟨g8, h⟩ := h
      refine nG_iast (j := x3.toNatClampNeg) sR_20 rfl dX9_putIn_165 ⟨g8, ?_⟩
      refine nE_iinc (v := x3 + (-1)) dX9_putIn_166 rfl rfl (by decide) rfl ?_
      refine nE_goto (tgt := 126) dX9_putIn_169 (by decide) ?_
      exact h
set_option maxRecDepth 20000 in
theorem sg_X9_farOf_0 (x1 : Int32) (x2 : Int32) {σ : nh_S} {Q : Option Value → nh_S → Prop} (h : (vp_in ((9 * x1) + x2) 81) ∧ Q (some (.int (σ.2.1 14 (((9 * x1) + x2).toNatClampNeg)))) σ) : nh_E kX9_farOf 0 [some (.ref 0), some (.int x1), some (.int x2)] [] σ Q := by
  refine nE_aload_n dX9_farOf_0 rfl rfl ?_
  refine nE_getC fl_X9_54 sR_0 rfl dX9_farOf_1 ?_
  refine nE_bipush (v := 9) dX9_farOf_4 (by decide) ?_
  refine nE_iload_n dX9_farOf_6 rfl rfl ?_
  refine nE_imul dX9_farOf_7 ?_
  refine nE_iload_n dX9_farOf_8 rfl rfl ?_
  refine nE_iadd dX9_farOf_9 ?_
  obtain ⟨g1, h⟩ := h
  refine nG_iald (j := ((9 * x1) + x2).toNatClampNeg) sR_14 rfl dX9_farOf_10 ⟨g1, ?_⟩
  exact nE_iret dX9_farOf_11 rfl h
set_option maxRecDepth 20000 in
theorem sg_X9_allParts_0  {σ : nh_S} {Q : Option Value → nh_S → Prop} (h : Q (some (.int ((1 <<< ((σ.2.1 9 1) &&& 31)) - 1))) σ) : nh_E kX9_allParts 0 [some (.ref 0)] [] σ Q := by
  refine nE_iconst (v := 1) dX9_allParts_0 (by decide) ?_
  refine nE_aload_n dX9_allParts_1 rfl rfl ?_
  refine nE_getC fl_X9_35 sR_0 rfl dX9_allParts_2 ?_
  refine nE_iconst (v := 1) dX9_allParts_5 (by decide) ?_
  refine nG_iald (j := 1) sR_9 (by decide) dX9_allParts_6 ⟨(nh_vi (by decide)), ?_⟩
  refine nE_ishl dX9_allParts_7 ?_
  refine nE_iconst (v := 1) dX9_allParts_8 (by decide) ?_
  refine nE_isub dX9_allParts_9 ?_
  exact nE_iret dX9_allParts_10 rfl h
