set_option maxRecDepth 20000 in
theorem sg_X9_ones_0 (x0 : Int32) {σ : nh_S} {Q : Option Value → nh_S → Prop} (h : nh_E kX9_ones 4 [some (.int x0), some (.int 0), some (.int 0)] [] σ Q) : nh_E kX9_ones 0 [some (.int x0), none, none] [] σ Q := by
  refine nE_iconst (v := 0) dX9_ones_0 (by decide) ?_
  refine nE_istore_n dX9_ones_1 rfl rfl (by decide) ?_
  refine nE_iconst (v := 0) dX9_ones_2 (by decide) ?_
  refine nE_istore_n dX9_ones_3 rfl rfl (by decide) ?_
  exact h
set_option maxRecDepth 20000 in
theorem sg_X9_ones_4 (x0 : Int32) (x1 : Int32) (x2 : Int32) {σ : nh_S} {Q : Option Value → nh_S → Prop} (h : (12 ≤ x2 → (Q (some (.int x1)) σ)) ∧ (¬ (12 ≤ x2) → (nh_E kX9_ones 4 [some (.int x0), some (.int (x1 + ((x0 >>> (x2 &&& 31)) &&& 1))), some (.int (x2 + 1))] [] σ Q))) : nh_E kX9_ones 4 [some (.int x0), some (.int x1), some (.int x2)] [] σ Q := by
  refine nE_iload_n dX9_ones_4 rfl rfl ?_
  refine nE_bipush (v := 12) dX9_ones_5 (by decide) ?_
  refine nE_icmp_ge (tgt := 24) dX9_ones_7 (by decide) ⟨fun c1 => ?_, fun c1 => ?_⟩
  · have h := h.1 c1
    refine nE_iload_n dX9_ones_24 rfl rfl ?_
    exact nE_iret dX9_ones_25 rfl h
  · have h := h.2 c1
    refine nE_iload_n dX9_ones_10 rfl rfl ?_
    refine nE_iload_n dX9_ones_11 rfl rfl ?_
    refine nE_iload_n dX9_ones_12 rfl rfl ?_
    refine nE_ishr dX9_ones_13 ?_
    refine nE_iconst (v := 1) dX9_ones_14 (by decide) ?_
    refine nE_iand dX9_ones_15 ?_
    refine nE_iadd dX9_ones_16 ?_
    refine nE_istore_n dX9_ones_17 rfl rfl (by decide) ?_
    refine nE_iinc (v := x2 + 1) dX9_ones_18 rfl rfl (by decide) rfl ?_
    refine nE_goto (tgt := 4) dX9_ones_21 (by decide) ?_
    exact h
set_option maxRecDepth 20000 in
theorem sg_X9_feed_0 (x1 : Int32) (x2 : Int64) {σ : nh_S} {Q : Option Value → nh_S → Prop} (h : (¬ (x1 < 1) ∧ ¬ (8 < x1) → (((σ.1 0 16) + x1 ≤ 600 → (nh_E kX9_feed 35 [some (.ref 0), none, some (.long x2), none, some (.int (x1 - 1))] [] σ Q)) ∧ (¬ ((σ.1 0 16) + x1 ≤ 600) → (Q (some (.int (-1000004))) σ)))) ∧ (¬ (¬ (x1 < 1) ∧ ¬ (8 < x1)) → (Q (some (.int (-1000002))) σ))) : nh_E kX9_feed 0 [some (.ref 0), some (.int x1), some (.long x2), none, none] [] σ Q := by
  refine nE_iload_n dX9_feed_0 rfl rfl ?_
  refine nE_i2l dX9_feed_1 ?_
  refine nE_lconst (v := 1) dX9_feed_2 (by decide) ?_
  refine nE_ldc2 kc_X9_93 dX9_feed_3 ?_
  refine nE_callS (As := [.long x1.toInt64, .long 1, .long 8]) yf_X9_in ⟨by decide, by decide⟩ rfl sl_X9_95 dX9_feed_6 rfl rfl (Nat.le_of_ble_eq_true rfl) (Nat.le_of_ble_eq_true rfl) (p_X9_in x1 1 8 (by decide) (by decide) ?_)
  refine nE_ifb_ne (tgt := 15) dX9_feed_9 (by decide) ⟨fun c1 => ?_, fun c1 => ?_⟩
  · have h := h.1 c1
    refine nE_aload_n dX9_feed_15 rfl rfl ?_
    refine nE_getI fl_X9_100 sR_0 rfl dX9_feed_16 ?_
    refine nE_iload_n dX9_feed_19 rfl rfl ?_
    refine nE_iadd dX9_feed_20 ?_
    refine nE_sipush (v := 600) dX9_feed_21 (by decide) ?_
    refine nE_icmp_le (tgt := 30) dX9_feed_24 (by decide) ⟨fun c2 => ?_, fun c2 => ?_⟩
    · have h := h.1 c2
      refine nE_iload_n dX9_feed_30 rfl rfl ?_
      refine nE_iconst (v := 1) dX9_feed_31 (by decide) ?_
      refine nE_isub dX9_feed_32 ?_
      refine nE_istore dX9_feed_33 rfl (by decide) ?_
      refine nE_weak 1 ?_
      exact h
    · have h := h.2 c2
      refine nE_ldc kc_X9_103 dX9_feed_27 ?_
      exact nE_iret dX9_feed_29 rfl h
  · have h := h.2 c1
    refine nE_ldc kc_X9_99 dX9_feed_12 ?_
    exact nE_iret dX9_feed_14 rfl h
set_option maxRecDepth 20000 in
theorem sg_X9_feed_35 (x2 : Int64) (x4 : Int32) {σ : nh_S} {Q : Option Value → nh_S → Prop} (h : (x4 < 0 → (Q (some (.int (σ.1 0 16))) σ)) ∧ (¬ (x4 < 0) → ((vp_in (σ.1 0 16) 600) ∧ nh_E kX9_feed 35 [some (.ref 0), none, some (.long x2), none, some (.int (x4 + (-1)))] [] (nh_si (nh_wa σ 13 ((σ.1 0 16).toNatClampNeg) (((x2 >>> ((8 * x4).toInt64 &&& 63)) &&& 255).toInt32)) 0 16 ((σ.1 0 16) + 1)) Q))) : nh_E kX9_feed 35 [some (.ref 0), none, some (.long x2), none, some (.int x4)] [] σ Q := by
  refine nE_iload dX9_feed_35 rfl ?_
  refine nE_if_lt (tgt := 77) dX9_feed_37 (by decide) ⟨fun c1 => ?_, fun c1 => ?_⟩
  · have h := h.1 c1
    refine nE_aload_n dX9_feed_77 rfl rfl ?_
    refine nE_getI fl_X9_100 sR_0 rfl dX9_feed_78 ?_
    exact nE_iret dX9_feed_81 rfl h
  · have h := h.2 c1
    refine nE_aload_n dX9_feed_40 rfl rfl ?_
    refine nE_getC fl_X9_47 sR_0 rfl dX9_feed_41 ?_
    refine nE_aload_n dX9_feed_44 rfl rfl ?_
    refine nE_getI fl_X9_100 sR_0 rfl dX9_feed_45 ?_
    refine nE_lload_n dX9_feed_48 rfl rfl ?_
    refine nE_bipush (v := 8) dX9_feed_49 (by decide) ?_
    refine nE_iload dX9_feed_51 rfl ?_
    refine nE_imul dX9_feed_53 ?_
    refine nE_lshr dX9_feed_54 ?_
    refine nE_ldc2 kc_X9_104 dX9_feed_55 ?_
    refine nE_land dX9_feed_58 ?_
    refine nE_l2i dX9_feed_59 ?_
    obtain ⟨g2, h⟩ := h
    refine nG_iast (j := (σ.1 0 16).toNatClampNeg) sR_13 rfl dX9_feed_60 ⟨g2, ?_⟩
    refine nE_aload_n dX9_feed_61 rfl rfl ?_
    refine nE_dup dX9_feed_62 rfl ?_
    refine nE_getI fl_X9_100 sR_0 rfl dX9_feed_63 ?_
    refine nE_iconst (v := 1) dX9_feed_66 (by decide) ?_
    refine nE_iadd dX9_feed_67 ?_
    refine nE_putI fl_X9_100 sR_0 rfl ⟨rfl, rfl⟩ dX9_feed_68 ?_
    refine nE_iinc (v := x4 + (-1)) dX9_feed_71 rfl rfl (by decide) rfl ?_
    refine nE_goto (tgt := 35) dX9_feed_74 (by decide) ?_
    exact h
set_option maxRecDepth 20000 in
theorem sg_X9_here_0  {σ : nh_S} {Q : Option Value → nh_S → Prop} (h : (σ.1 0 16 ≤ σ.1 0 17 → (((¬ (σ.1 0 16 ≤ σ.1 0 17) → (vp_in (σ.1 0 17) 600))) ∧ Q (some (.int (if σ.1 0 16 ≤ σ.1 0 17 then (-1) else σ.2.1 13 ((σ.1 0 17).toNatClampNeg)))) σ)) ∧ (¬ (σ.1 0 16 ≤ σ.1 0 17) → ((vp_in (σ.1 0 17) 600) ∧ (¬ (σ.2.1 13 ((σ.1 0 17).toNatClampNeg) = 32) → (Q (some (.int (if σ.1 0 16 ≤ σ.1 0 17 then (-1) else σ.2.1 13 ((σ.1 0 17).toNatClampNeg)))) σ)) ∧ (σ.2.1 13 ((σ.1 0 17).toNatClampNeg) = 32 → (nh_E kX9_here 0 [some (.ref 0)] [] (nh_si σ 0 17 ((σ.1 0 17) + 1)) Q))))) : nh_E kX9_here 0 [some (.ref 0)] [] σ Q := by
  refine nE_aload_n dX9_here_0 rfl rfl ?_
  refine nE_getI fl_X9_106 sR_0 rfl dX9_here_1 ?_
  refine nE_aload_n dX9_here_4 rfl rfl ?_
  refine nE_getI fl_X9_100 sR_0 rfl dX9_here_5 ?_
  refine nE_icmp_ge (tgt := 38) dX9_here_8 (by decide) ⟨fun c1 => ?_, fun c1 => ?_⟩
  · have h := h.1 c1
    refine nE_aload_n dX9_here_38 rfl rfl ?_
    refine nE_getI fl_X9_106 sR_0 rfl dX9_here_39 ?_
    refine nE_aload_n dX9_here_42 rfl rfl ?_
    refine nE_getI fl_X9_100 sR_0 rfl dX9_here_43 ?_
    obtain ⟨u3, h⟩ := h
    have j4 : nh_E kX9_here 62 [some (.ref 0)] [.int (if σ.1 0 16 ≤ σ.1 0 17 then (-1) else σ.2.1 13 ((σ.1 0 17).toNatClampNeg))] σ Q := by
      exact nE_iret dX9_here_62 rfl h
    have u5 := u3
    refine nE_icmp_ge (tgt := 61) dX9_here_46 (by decide) ⟨fun c6 => ?_, fun c6 => ?_⟩
    · skip
      have f7 : (σ.1 0 16 ≤ σ.1 0 17) = True := eq_true c6
      refine nE_iconst (v := (-1)) dX9_here_61 (by decide) ?_
      exact nh_topi (show ((if σ.1 0 16 ≤ σ.1 0 17 then (-1) else σ.2.1 13 ((σ.1 0 17).toNatClampNeg)) : Int32) = (-1) from by simp only [if_true, if_false, not_true_eq_false, not_false_eq_true, true_and, and_true, false_and, and_false, true_or, or_true, false_or, or_false, if_pos, if_neg, ite_true, ite_false, f7]) j4
    · skip
      have f8 : (σ.1 0 16 ≤ σ.1 0 17) = False := eq_false c6
      have g2 := (u5 c6)
      refine nE_aload_n dX9_here_49 rfl rfl ?_
      refine nE_getC fl_X9_47 sR_0 rfl dX9_here_50 ?_
      refine nE_aload_n dX9_here_53 rfl rfl ?_
      refine nE_getI fl_X9_106 sR_0 rfl dX9_here_54 ?_
      refine nG_iald (j := (σ.1 0 17).toNatClampNeg) sR_13 rfl dX9_here_57 ⟨g2, ?_⟩
      refine nE_goto (tgt := 62) dX9_here_58 (by decide) ?_
      exact nh_topi (show ((if σ.1 0 16 ≤ σ.1 0 17 then (-1) else σ.2.1 13 ((σ.1 0 17).toNatClampNeg)) : Int32) = σ.2.1 13 ((σ.1 0 17).toNatClampNeg) from by simp only [if_true, if_false, not_true_eq_false, not_false_eq_true, true_and, and_true, false_and, and_false, true_or, or_true, false_or, or_false, if_pos, if_neg, ite_true, ite_false, f8]) j4
  · have h := h.2 c1
    refine nE_aload_n dX9_here_11 rfl rfl ?_
    refine nE_getC fl_X9_47 sR_0 rfl dX9_here_12 ?_
    refine nE_aload_n dX9_here_15 rfl rfl ?_
    refine nE_getI fl_X9_106 sR_0 rfl dX9_here_16 ?_
    obtain ⟨g9, h⟩ := h
    refine nG_iald (j := (σ.1 0 17).toNatClampNeg) sR_13 rfl dX9_here_19 ⟨g9, ?_⟩
    refine nE_bipush (v := 32) dX9_here_20 (by decide) ?_
    refine nE_icmp_ne (tgt := 38) dX9_here_22 (by decide) ⟨fun c10 => ?_, fun c10 => ?_⟩
    · have h := h.1 c10
      refine nE_aload_n dX9_here_38 rfl rfl ?_
      refine nE_getI fl_X9_106 sR_0 rfl dX9_here_39 ?_
      refine nE_aload_n dX9_here_42 rfl rfl ?_
      refine nE_getI fl_X9_100 sR_0 rfl dX9_here_43 ?_
      have j11 : nh_E kX9_here 62 [some (.ref 0)] [.int (if σ.1 0 16 ≤ σ.1 0 17 then (-1) else σ.2.1 13 ((σ.1 0 17).toNatClampNeg))] σ Q := by
        exact nE_iret dX9_here_62 rfl h
      refine nE_icmp_ge (tgt := 61) dX9_here_46 (by decide) ⟨fun c12 => ?_, fun c12 => ?_⟩
      · skip
        have f13 : (σ.1 0 16 ≤ σ.1 0 17) = True := eq_true c12
        refine nE_iconst (v := (-1)) dX9_here_61 (by decide) ?_
        exact nh_topi (show ((if σ.1 0 16 ≤ σ.1 0 17 then (-1) else σ.2.1 13 ((σ.1 0 17).toNatClampNeg)) : Int32) = (-1) from by simp only [if_true, if_false, not_true_eq_false, not_false_eq_true, true_and, and_true, false_and, and_false, true_or, or_true, false_or, or_false, if_pos, if_neg, ite_true, ite_false, f13]) j11
      · skip
        have f14 : (σ.1 0 16 ≤ σ.1 0 17) = False := eq_false c12
        refine nE_aload_n dX9_here_49 rfl rfl ?_
        refine nE_getC fl_X9_47 sR_0 rfl dX9_here_50 ?_
        refine nE_aload_n dX9_here_53 rfl rfl ?_
        refine nE_getI fl_X9_106 sR_0 rfl dX9_here_54 ?_
        refine nG_iald (j := (σ.1 0 17).toNatClampNeg) sR_13 rfl dX9_here_57 ⟨g9, ?_⟩
        refine nE_goto (tgt := 62) dX9_here_58 (by decide) ?_
        exact nh_topi (show ((if σ.1 0 16 ≤ σ.1 0 17 then (-1) else σ.2.1 13 ((σ.1 0 17).toNatClampNeg)) : Int32) = σ.2.1 13 ((σ.1 0 17).toNatClampNeg) from by simp only [if_true, if_false, not_true_eq_false, not_false_eq_true, true_and, and_true, false_and, and_false, true_or, or_true, false_or, or_false, if_pos, if_neg, ite_true, ite_false, f14]) j11
    · have h := h.2 c10
      refine nE_aload_n dX9_here_25 rfl rfl ?_
      refine nE_dup dX9_here_26 rfl ?_
      refine nE_getI fl_X9_106 sR_0 rfl dX9_here_27 ?_
      refine nE_iconst (v := 1) dX9_here_30 (by decide) ?_
      refine nE_iadd dX9_here_31 ?_
      refine nE_putI fl_X9_106 sR_0 rfl ⟨rfl, rfl⟩ dX9_here_32 ?_
      refine nE_goto (tgt := 0) dX9_here_35 (by decide) ?_
      exact h
set_option maxRecDepth 20000 in
theorem sg_X9_want_0 (x1 : Int32) (x2 : Int32) (x3 : Int32) {σ : nh_S} {Q : Option Value → nh_S → Prop} (h : (¬ (x1 = 0) → (Q (some (.int (if σ.1 0 20 = 0 then 1 else 0))) σ)) ∧ (x1 = 0 → ((¬ (σ.1 0 20 = 0) → (Q (some (.int (if σ.1 0 20 = 0 then 1 else 0))) σ)) ∧ (σ.1 0 20 = 0 → (Q (some (.int (if x2 = 0 then 1 else 0))) (nh_si (nh_si σ 0 20 x2) 0 21 x3)))))) : nh_E kX9_want 0 [some (.ref 0), some (.int x1), some (.int x2), some (.int x3)] [] σ Q := by
  refine nE_iload_n dX9_want_0 rfl rfl ?_
  refine nE_if_ne (tgt := 21) dX9_want_1 (by decide) ⟨fun c1 => ?_, fun c1 => ?_⟩
  · have h := h.1 c1
    refine nE_aload_n dX9_want_21 rfl rfl ?_
    refine nE_getI fl_X9_109 sR_0 rfl dX9_want_22 ?_
    have j2 : nh_E kX9_want 33 [some (.ref 0), some (.int x1), some (.int x2), some (.int x3)] [.int (if σ.1 0 20 = 0 then 1 else 0)] σ Q := by
      exact nE_zret (ty := .boolean) dX9_want_33 rfl (nh_nb _) h
    refine nE_if_ne (tgt := 32) dX9_want_25 (by decide) ⟨fun c3 => ?_, fun c3 => ?_⟩
    · skip
      have f4 : (σ.1 0 20 = 0) = False := eq_false c3
      refine nE_iconst (v := 0) dX9_want_32 (by decide) ?_
      exact nh_topi (show ((if σ.1 0 20 = 0 then 1 else 0) : Int32) = 0 from by simp only [if_true, if_false, not_true_eq_false, not_false_eq_true, true_and, and_true, false_and, and_false, true_or, or_true, false_or, or_false, if_pos, if_neg, ite_true, ite_false, f4]) j2
    · skip
      have f5 : (σ.1 0 20 = 0) = True := eq_true c3
      refine nE_iconst (v := 1) dX9_want_28 (by decide) ?_
      refine nE_goto (tgt := 33) dX9_want_29 (by decide) ?_
      exact nh_topi (show ((if σ.1 0 20 = 0 then 1 else 0) : Int32) = 1 from by simp only [if_true, if_false, not_true_eq_false, not_false_eq_true, true_and, and_true, false_and, and_false, true_or, or_true, false_or, or_false, if_pos, if_neg, ite_true, ite_false, f5]) j2
  · have h := h.2 c1
    refine nE_aload_n dX9_want_4 rfl rfl ?_
    refine nE_getI fl_X9_109 sR_0 rfl dX9_want_5 ?_
    refine nE_if_ne (tgt := 21) dX9_want_8 (by decide) ⟨fun c6 => ?_, fun c6 => ?_⟩
    · have h := h.1 c6
      refine nE_aload_n dX9_want_21 rfl rfl ?_
      refine nE_getI fl_X9_109 sR_0 rfl dX9_want_22 ?_
      have j7 : nh_E kX9_want 33 [some (.ref 0), some (.int x1), some (.int x2), some (.int x3)] [.int (if σ.1 0 20 = 0 then 1 else 0)] σ Q := by
        exact nE_zret (ty := .boolean) dX9_want_33 rfl (nh_nb _) h
      refine nE_if_ne (tgt := 32) dX9_want_25 (by decide) ⟨fun c8 => ?_, fun c8 => ?_⟩
      · skip
        have f9 : (σ.1 0 20 = 0) = False := eq_false c8
        refine nE_iconst (v := 0) dX9_want_32 (by decide) ?_
        exact nh_topi (show ((if σ.1 0 20 = 0 then 1 else 0) : Int32) = 0 from by simp only [if_true, if_false, not_true_eq_false, not_false_eq_true, true_and, and_true, false_and, and_false, true_or, or_true, false_or, or_false, if_pos, if_neg, ite_true, ite_false, f9]) j7
      · skip
        have f10 : (σ.1 0 20 = 0) = True := eq_true c8
        refine nE_iconst (v := 1) dX9_want_28 (by decide) ?_
        refine nE_goto (tgt := 33) dX9_want_29 (by decide) ?_
        exact nh_topi (show ((if σ.1 0 20 = 0 then 1 else 0) : Int32) = 1 from by simp only [if_true, if_false, not_true_eq_false, not_false_eq_true, true_and, and_true, false_and, and_false, true_or, or_true, false_or, or_false, if_pos, if_neg, ite_true, ite_false, f10]) j7
    · have h := h.2 c6
      refine nE_aload_n dX9_want_11 rfl rfl ?_
      refine nE_iload_n dX9_want_12 rfl rfl ?_
      refine nE_putI fl_X9_109 sR_0 rfl ⟨rfl, rfl⟩ dX9_want_13 ?_
      refine nE_aload_n dX9_want_16 rfl rfl ?_
      refine nE_iload_n dX9_want_17 rfl rfl ?_
      refine nE_putI fl_X9_50 sR_0 rfl ⟨rfl, rfl⟩ dX9_want_18 ?_
      refine nE_aload_n dX9_want_21 rfl rfl ?_
      refine nE_getI fl_X9_109 sR_0 rfl dX9_want_22 ?_
      have j11 : nh_E kX9_want 33 [some (.ref 0), some (.int x1), some (.int x2), some (.int x3)] [.int (if x2 = 0 then 1 else 0)] (nh_si (nh_si σ 0 20 x2) 0 21 x3) Q := by
        exact nE_zret (ty := .boolean) dX9_want_33 rfl (nh_nb _) h
      refine nE_if_ne (tgt := 32) dX9_want_25 (by decide) ⟨fun c12 => ?_, fun c12 => ?_⟩
      · skip
        have f13 : (x2 = 0) = False := eq_false c12
        refine nE_iconst (v := 0) dX9_want_32 (by decide) ?_
        exact nh_topi (show ((if x2 = 0 then 1 else 0) : Int32) = 0 from by simp only [if_true, if_false, not_true_eq_false, not_false_eq_true, true_and, and_true, false_and, and_false, true_or, or_true, false_or, or_false, if_pos, if_neg, ite_true, ite_false, f13]) j11
      · skip
        have f14 : (x2 = 0) = True := eq_true c12
        refine nE_iconst (v := 1) dX9_want_28 (by decide) ?_
        refine nE_goto (tgt := 33) dX9_want_29 (by decide) ?_
        exact nh_topi (show ((if x2 = 0 then 1 else 0) : Int32) = 1 from by simp only [if_true, if_false, not_true_eq_false, not_false_eq_true, true_and, and_true, false_and, and_false, true_or, or_true, false_or, or_false, if_pos, if_neg, ite_true, ite_false, f14]) j11
set_option maxRecDepth 20000 in
theorem sg_X9_takeWord_0  {σ : nh_S} {Q : Option Value → nh_S → Prop} (h : nh_E kX9_here 0 [some (.ref 0)] [] σ (nh_qi fun r2 τ1 => nh_E kX9_takeWord 13 [some (.ref 0), none] [] (nh_si τ1 0 18 (τ1.1 0 17)) Q)) : nh_E kX9_takeWord 0 [some (.ref 0), none] [] σ Q := by
  refine nE_aload_n dX9_takeWord_0 rfl rfl ?_
  refine nE_callV (As := []) yf_X9_here ⟨by decide, by decide⟩ rfl rfl sR_0 rfl vl_X9_112 dX9_takeWord_1 rfl rfl (Nat.le_of_ble_eq_true rfl) (Nat.le_of_ble_eq_true rfl) (nE_mono (fun z3 τ1 h => ?_) h)
  obtain ⟨r2, rfl, h⟩ := h
  refine nE_istore_n dX9_takeWord_4 rfl rfl (by decide) ?_
  refine nE_aload_n dX9_takeWord_5 rfl rfl ?_
  refine nE_aload_n dX9_takeWord_6 rfl rfl ?_
  refine nE_getI fl_X9_106 sR_0 rfl dX9_takeWord_7 ?_
  refine nE_putI fl_X9_116 sR_0 rfl ⟨rfl, rfl⟩ dX9_takeWord_10 ?_
  refine nE_weak 1 ?_
  exact h
set_option maxRecDepth 20000 in
theorem sg_X9_takeWord_13  {σ : nh_S} {Q : Option Value → nh_S → Prop} (h : (σ.1 0 16 ≤ σ.1 0 17 → (Q none (nh_si σ 0 19 ((σ.1 0 17) - (σ.1 0 18))))) ∧ (¬ (σ.1 0 16 ≤ σ.1 0 17) → ((vp_in (σ.1 0 17) 600) ∧ (¬ (¬ ((σ.2.1 13 ((σ.1 0 17).toNatClampNeg)) < 97) ∧ ¬ (122 < (σ.2.1 13 ((σ.1 0 17).toNatClampNeg)))) → (Q none (nh_si σ 0 19 ((σ.1 0 17) - (σ.1 0 18))))) ∧ (¬ ((σ.2.1 13 ((σ.1 0 17).toNatClampNeg)) < 97) ∧ ¬ (122 < (σ.2.1 13 ((σ.1 0 17).toNatClampNeg))) → (nh_E kX9_takeWord 13 [some (.ref 0), none] [] (nh_si σ 0 17 ((σ.1 0 17) + 1)) Q))))) : nh_E kX9_takeWord 13 [some (.ref 0), none] [] σ Q := by
  refine nE_aload_n dX9_takeWord_13 rfl rfl ?_
  refine nE_getI fl_X9_106 sR_0 rfl dX9_takeWord_14 ?_
  refine nE_aload_n dX9_takeWord_17 rfl rfl ?_
  refine nE_getI fl_X9_100 sR_0 rfl dX9_takeWord_18 ?_
  refine nE_icmp_ge (tgt := 59) dX9_takeWord_21 (by decide) ⟨fun c1 => ?_, fun c1 => ?_⟩
  · have h := h.1 c1
    refine nE_aload_n dX9_takeWord_59 rfl rfl ?_
    refine nE_aload_n dX9_takeWord_60 rfl rfl ?_
    refine nE_getI fl_X9_106 sR_0 rfl dX9_takeWord_61 ?_
    refine nE_aload_n dX9_takeWord_64 rfl rfl ?_
    refine nE_getI fl_X9_116 sR_0 rfl dX9_takeWord_65 ?_
    refine nE_isub dX9_takeWord_68 ?_
    refine nE_putI fl_X9_123 sR_0 rfl ⟨rfl, rfl⟩ dX9_takeWord_69 ?_
    exact nE_vret dX9_takeWord_72 rfl h
  · have h := h.2 c1
    refine nE_aload_n dX9_takeWord_24 rfl rfl ?_
    refine nE_getC fl_X9_47 sR_0 rfl dX9_takeWord_25 ?_
    refine nE_aload_n dX9_takeWord_28 rfl rfl ?_
    refine nE_getI fl_X9_106 sR_0 rfl dX9_takeWord_29 ?_
    obtain ⟨g2, h⟩ := h
    refine nG_iald (j := (σ.1 0 17).toNatClampNeg) sR_13 rfl dX9_takeWord_32 ⟨g2, ?_⟩
    refine nE_i2l dX9_takeWord_33 ?_
    refine nE_ldc2 kc_X9_119 dX9_takeWord_34 ?_
    refine nE_ldc2 kc_X9_121 dX9_takeWord_37 ?_
    refine nE_callS (As := [.long ((σ.2.1 13 ((σ.1 0 17).toNatClampNeg)).toInt64), .long 97, .long 122]) yf_X9_in ⟨by decide, by decide⟩ rfl sl_X9_95 dX9_takeWord_40 rfl rfl (Nat.le_of_ble_eq_true rfl) (Nat.le_of_ble_eq_true rfl) (p_X9_in (σ.2.1 13 ((σ.1 0 17).toNatClampNeg)) 97 122 (by decide) (by decide) ?_)
    refine nE_ifb_eq (tgt := 59) dX9_takeWord_43 (by decide) ⟨fun c3 => ?_, fun c3 => ?_⟩
    · have h := h.1 c3
      refine nE_aload_n dX9_takeWord_59 rfl rfl ?_
      refine nE_aload_n dX9_takeWord_60 rfl rfl ?_
      refine nE_getI fl_X9_106 sR_0 rfl dX9_takeWord_61 ?_
      refine nE_aload_n dX9_takeWord_64 rfl rfl ?_
      refine nE_getI fl_X9_116 sR_0 rfl dX9_takeWord_65 ?_
      refine nE_isub dX9_takeWord_68 ?_
      refine nE_putI fl_X9_123 sR_0 rfl ⟨rfl, rfl⟩ dX9_takeWord_69 ?_
      exact nE_vret dX9_takeWord_72 rfl h
    · have h := h.2 c3
      refine nE_aload_n dX9_takeWord_46 rfl rfl ?_
      refine nE_dup dX9_takeWord_47 rfl ?_
      refine nE_getI fl_X9_106 sR_0 rfl dX9_takeWord_48 ?_
      refine nE_iconst (v := 1) dX9_takeWord_51 (by decide) ?_
      refine nE_iadd dX9_takeWord_52 ?_
      refine nE_putI fl_X9_106 sR_0 rfl ⟨rfl, rfl⟩ dX9_takeWord_53 ?_
      refine nE_goto (tgt := 13) dX9_takeWord_56 (by decide) ?_
      exact h
set_option maxRecDepth 20000 in
theorem sg_X9_isWord_0 (x1 : Int32) (x2 : Int32) (x3 : Int32) (x4 : Int32) (x5 : Int32) (x6 : Int32) {σ : nh_S} {Q : Option Value → nh_S → Prop} (h : nh_E kX9_isWord 18 [some (.ref 0), some (.int x1), some (.int x2), some (.int x3), some (.int x4), some (.int x5), some (.int x6), some (.int (if σ.1 0 19 = x1 then 1 else 0)), some (.int 0)] [] σ Q) : nh_E kX9_isWord 0 [some (.ref 0), some (.int x1), some (.int x2), some (.int x3), some (.int x4), some (.int x5), some (.int x6), none, none] [] σ Q := by
  refine nE_aload_n dX9_isWord_0 rfl rfl ?_
  refine nE_getI fl_X9_123 sR_0 rfl dX9_isWord_1 ?_
  refine nE_iload_n dX9_isWord_4 rfl rfl ?_
  have j1 : nh_E kX9_isWord 13 [some (.ref 0), some (.int x1), some (.int x2), some (.int x3), some (.int x4), some (.int x5), some (.int x6), none, none] [.int (if σ.1 0 19 = x1 then 1 else 0)] σ Q := by
    refine nE_istore dX9_isWord_13 rfl (by decide) ?_
    refine nE_iconst (v := 0) dX9_isWord_15 (by decide) ?_
    refine nE_istore dX9_isWord_16 rfl (by decide) ?_
    exact h
  refine nE_icmp_ne (tgt := 12) dX9_isWord_5 (by decide) ⟨fun c2 => ?_, fun c2 => ?_⟩
  · skip
    have f3 : (σ.1 0 19 = x1) = False := eq_false c2
    refine nE_iconst (v := 0) dX9_isWord_12 (by decide) ?_
    exact nh_topi (show ((if σ.1 0 19 = x1 then 1 else 0) : Int32) = 0 from by simp only [if_true, if_false, not_true_eq_false, not_false_eq_true, true_and, and_true, false_and, and_false, true_or, or_true, false_or, or_false, if_pos, if_neg, ite_true, ite_false, f3]) j1
  · skip
    have f4 : (σ.1 0 19 = x1) = True := eq_true c2
    refine nE_iconst (v := 1) dX9_isWord_8 (by decide) ?_
    refine nE_goto (tgt := 13) dX9_isWord_9 (by decide) ?_
    exact nh_topi (show ((if σ.1 0 19 = x1 then 1 else 0) : Int32) = 1 from by simp only [if_true, if_false, not_true_eq_false, not_false_eq_true, true_and, and_true, false_and, and_false, true_or, or_true, false_or, or_false, if_pos, if_neg, ite_true, ite_false, f4]) j1
set_option maxRecDepth 20000 in
theorem sg_X9_isWord_18 (x1 : Int32) (x2 : Int32) (x3 : Int32) (x4 : Int32) (x5 : Int32) (x6 : Int32) (x7 : Int32) (x8 : Int32) {σ : nh_S} {Q : Option Value → nh_S → Prop} (h : (x1 ≤ x8 → ((x7 = 0 ∨ x7 = 1) ∧ Q (some (.int x7)) σ)) ∧ (¬ (x1 ≤ x8) → ((x7 = 0 → ((x7 = 0 ∨ x7 = 1) ∧ Q (some (.int x7)) σ)) ∧ (¬ (x7 = 0) → ((vp_in ((σ.1 0 18) + x8) 600) ∧ nh_E kX9_isWord 18 [some (.ref 0), some (.int x1), some (.int x2), some (.int x3), some (.int x4), some (.int x5), some (.int x6), some (.int (if σ.2.1 13 (((σ.1 0 18) + x8).toNatClampNeg) = (if x8 = 0 then x2 else (if x8 = 1 then x3 else (if x8 = 2 then x4 else (if x8 = 3 then x5 else x6)))) then 1 else 0)), some (.int (x8 + 1))] [] σ Q))))) : nh_E kX9_isWord 18 [some (.ref 0), some (.int x1), some (.int x2), some (.int x3), some (.int x4), some (.int x5), some (.int x6), some (.int x7), some (.int x8)] [] σ Q := by
  refine nE_iload dX9_isWord_18 rfl ?_
  refine nE_iload_n dX9_isWord_20 rfl rfl ?_
  refine nE_icmp_ge (tgt := 100) dX9_isWord_21 (by decide) ⟨fun c1 => ?_, fun c1 => ?_⟩
  · have h := h.1 c1
    refine nE_iload dX9_isWord_100 rfl ?_
    exact nE_zret (ty := .boolean) dX9_isWord_102 rfl (nh_n01 h.1) h.2
  · have h := h.2 c1
    refine nE_iload dX9_isWord_24 rfl ?_
    refine nE_if_eq (tgt := 100) dX9_isWord_26 (by decide) ⟨fun c2 => ?_, fun c2 => ?_⟩
    · have h := h.1 c2
      refine nE_iload dX9_isWord_100 rfl ?_
      exact nE_zret (ty := .boolean) dX9_isWord_102 rfl (nh_n01 h.1) h.2
    · have h := h.2 c2
      refine nE_aload_n dX9_isWord_29 rfl rfl ?_
      refine nE_getC fl_X9_47 sR_0 rfl dX9_isWord_30 ?_
      refine nE_aload_n dX9_isWord_33 rfl rfl ?_
      refine nE_getI fl_X9_116 sR_0 rfl dX9_isWord_34 ?_
      refine nE_iload dX9_isWord_37 rfl ?_
      refine nE_iadd dX9_isWord_39 ?_
      obtain ⟨g3, h⟩ := h
      refine nG_iald (j := ((σ.1 0 18) + x8).toNatClampNeg) sR_13 rfl dX9_isWord_40 ⟨g3, ?_⟩
      refine nE_iload dX9_isWord_41 rfl ?_
      have j8 : nh_E kX9_isWord 84 [some (.ref 0), some (.int x1), some (.int x2), some (.int x3), some (.int x4), some (.int x5), some (.int x6), some (.int x7), some (.int x8)] [.int (if x8 = 0 then x2 else (if x8 = 1 then x3 else (if x8 = 2 then x4 else (if x8 = 3 then x5 else x6)))), .int (σ.2.1 13 (((σ.1 0 18) + x8).toNatClampNeg))] σ Q := by
        have j4 : nh_E kX9_isWord 92 [some (.ref 0), some (.int x1), some (.int x2), some (.int x3), some (.int x4), some (.int x5), some (.int x6), some (.int x7), some (.int x8)] [.int (if σ.2.1 13 (((σ.1 0 18) + x8).toNatClampNeg) = (if x8 = 0 then x2 else (if x8 = 1 then x3 else (if x8 = 2 then x4 else (if x8 = 3 then x5 else x6)))) then 1 else 0)] σ Q := by
          refine nE_istore dX9_isWord_92 rfl (by decide) ?_
          refine nE_iinc (v := x8 + 1) dX9_isWord_94 rfl rfl (by decide) rfl ?_
          refine nE_goto (tgt := 18) dX9_isWord_97 (by decide) ?_
          exact h
        refine nE_icmp_ne (tgt := 91) dX9_isWord_84 (by decide) ⟨fun c5 => ?_, fun c5 => ?_⟩
        · skip
          have f6 : (σ.2.1 13 (((σ.1 0 18) + x8).toNatClampNeg) = (if x8 = 0 then x2 else (if x8 = 1 then x3 else (if x8 = 2 then x4 else (if x8 = 3 then x5 else x6))))) = False := eq_false c5
          refine nE_iconst (v := 0) dX9_isWord_91 (by decide) ?_
          exact nh_topi (show ((if σ.2.1 13 (((σ.1 0 18) + x8).toNatClampNeg) = (if x8 = 0 then x2 else (if x8 = 1 then x3 else (if x8 = 2 then x4 else (if x8 = 3 then x5 else x6)))) then 1 else 0) : Int32) = 0 from by simp only [if_true, if_false, not_true_eq_false, not_false_eq_true, true_and, and_true, false_and, and_false, true_or, or_true, false_or, or_false, if_pos, if_neg, ite_true, ite_false, f6]) j4
        · skip
          have f7 : (σ.2.1 13 (((σ.1 0 18) + x8).toNatClampNeg) = (if x8 = 0 then x2 else (if x8 = 1 then x3 else (if x8 = 2 then x4 else (if x8 = 3 then x5 else x6))))) = True := eq_true c5
          refine nE_iconst (v := 1) dX9_isWord_87 (by decide) ?_
          refine nE_goto (tgt := 92) dX9_isWord_88 (by decide) ?_
          exact nh_topi (show ((if σ.2.1 13 (((σ.1 0 18) + x8).toNatClampNeg) = (if x8 = 0 then x2 else (if x8 = 1 then x3 else (if x8 = 2 then x4 else (if x8 = 3 then x5 else x6)))) then 1 else 0) : Int32) = 1 from by simp only [if_true, if_false, not_true_eq_false, not_false_eq_true, true_and, and_true, false_and, and_false, true_or, or_true, false_or, or_false, if_pos, if_neg, ite_true, ite_false, f7]) j4
      refine nE_if_ne (tgt := 50) dX9_isWord_43 (by decide) ⟨fun c9 => ?_, fun c9 => ?_⟩
      · skip
        have f10 : (x8 = 0) = False := eq_false c9
        refine nE_iload dX9_isWord_50 rfl ?_
        refine nE_iconst (v := 1) dX9_isWord_52 (by decide) ?_
        refine nE_icmp_ne (tgt := 60) dX9_isWord_53 (by decide) ⟨fun c11 => ?_, fun c11 => ?_⟩
        · skip
          have f12 : (x8 = 1) = False := eq_false c11
          refine nE_iload dX9_isWord_60 rfl ?_
          refine nE_iconst (v := 2) dX9_isWord_62 (by decide) ?_
          refine nE_icmp_ne (tgt := 71) dX9_isWord_63 (by decide) ⟨fun c13 => ?_, fun c13 => ?_⟩
          · skip
            have f14 : (x8 = 2) = False := eq_false c13
            refine nE_iload dX9_isWord_71 rfl ?_
            refine nE_iconst (v := 3) dX9_isWord_73 (by decide) ?_
            refine nE_icmp_ne (tgt := 82) dX9_isWord_74 (by decide) ⟨fun c15 => ?_, fun c15 => ?_⟩
            · skip
              have f16 : (x8 = 3) = False := eq_false c15
              refine nE_iload dX9_isWord_82 rfl ?_
              exact nh_topi (show ((if x8 = 0 then x2 else (if x8 = 1 then x3 else (if x8 = 2 then x4 else (if x8 = 3 then x5 else x6)))) : Int32) = x6 from by simp only [if_true, if_false, not_true_eq_false, not_false_eq_true, true_and, and_true, false_and, and_false, true_or, or_true, false_or, or_false, if_pos, if_neg, ite_true, ite_false, f10, f12, f14, f16]) j8
            · skip
              have f17 : (x8 = 3) = True := eq_true c15
              refine nE_iload dX9_isWord_77 rfl ?_
              refine nE_goto (tgt := 84) dX9_isWord_79 (by decide) ?_
              exact nh_topi (show ((if x8 = 0 then x2 else (if x8 = 1 then x3 else (if x8 = 2 then x4 else (if x8 = 3 then x5 else x6)))) : Int32) = x5 from by simp only [if_true, if_false, not_true_eq_false, not_false_eq_true, true_and, and_true, false_and, and_false, true_or, or_true, false_or, or_false, if_pos, if_neg, ite_true, ite_false, f10, f12, f14, f17]) j8
          · skip
            have f18 : (x8 = 2) = True := eq_true c13
            refine nE_iload dX9_isWord_66 rfl ?_
            refine nE_goto (tgt := 84) dX9_isWord_68 (by decide) ?_
            exact nh_topi (show ((if x8 = 0 then x2 else (if x8 = 1 then x3 else (if x8 = 2 then x4 else (if x8 = 3 then x5 else x6)))) : Int32) = x4 from by simp only [if_true, if_false, not_true_eq_false, not_false_eq_true, true_and, and_true, false_and, and_false, true_or, or_true, false_or, or_false, if_pos, if_neg, ite_true, ite_false, f10, f12, f18]) j8
        · skip
          have f19 : (x8 = 1) = True := eq_true c11
          refine nE_iload_n dX9_isWord_56 rfl rfl ?_
          refine nE_goto (tgt := 84) dX9_isWord_57 (by decide) ?_
          exact nh_topi (show ((if x8 = 0 then x2 else (if x8 = 1 then x3 else (if x8 = 2 then x4 else (if x8 = 3 then x5 else x6)))) : Int32) = x3 from by simp only [if_true, if_false, not_true_eq_false, not_false_eq_true, true_and, and_true, false_and, and_false, true_or, or_true, false_or, or_false, if_pos, if_neg, ite_true, ite_false, f10, f19]) j8
      · skip
        have f20 : (x8 = 0) = True := eq_true c9
        refine nE_iload_n dX9_isWord_46 rfl rfl ?_
        refine nE_goto (tgt := 84) dX9_isWord_47 (by decide) ?_
        exact nh_topi (show ((if x8 = 0 then x2 else (if x8 = 1 then x3 else (if x8 = 2 then x4 else (if x8 = 3 then x5 else x6)))) : Int32) = x2 from by simp only [if_true, if_false, not_true_eq_false, not_false_eq_true, true_and, and_true, false_and, and_false, true_or, or_true, false_or, or_false, if_pos, if_neg, ite_true, ite_false, f20]) j8
set_option maxRecDepth 20000 in
theorem sg_X9_takeNumber_0 (x1 : Int32) (x2 : Int32) {σ : nh_S} {Q : Option Value → nh_S → Prop} (h : (σ.1 0 20 ≤ 0 → (nh_E kX9_here 0 [some (.ref 0)] [] σ (nh_qi fun r3 τ2 => nh_E kX9_want 0 [some (.ref 0), some (.int (if ¬ (r3 < 48) ∧ ¬ (57 < r3) then 1 else 0)), some (.int 1), some (.int (τ2.1 0 17))] [] (nh_si τ2 0 18 (τ2.1 0 17)) (nh_qi fun r6 τ5 => (¬ (r6 = 0) → (nh_E kX9_takeNumber 50 [some (.ref 0), some (.int x1), some (.int x2), none, some (.int 0), none] [] τ5 Q)) ∧ (r6 = 0 → (Q (some (.int 0)) τ5)))))) ∧ (¬ (σ.1 0 20 ≤ 0) → (Q (some (.int 0)) σ))) : nh_E kX9_takeNumber 0 [some (.ref 0), some (.int x1), some (.int x2), none, none, none] [] σ Q := by
  refine nE_aload_n dX9_takeNumber_0 rfl rfl ?_
  refine nE_getI fl_X9_109 sR_0 rfl dX9_takeNumber_1 ?_
  refine nE_if_le (tgt := 9) dX9_takeNumber_4 (by decide) ⟨fun c1 => ?_, fun c1 => ?_⟩
  · have h := h.1 c1
    refine nE_aload_n dX9_takeNumber_9 rfl rfl ?_
    refine nE_callV (As := []) yf_X9_here ⟨by decide, by decide⟩ rfl rfl sR_0 rfl vl_X9_112 dX9_takeNumber_10 rfl rfl (Nat.le_of_ble_eq_true rfl) (Nat.le_of_ble_eq_true rfl) (nE_mono (fun z4 τ2 h => ?_) h)
    obtain ⟨r3, rfl, h⟩ := h
    refine nE_istore_n dX9_takeNumber_13 rfl rfl (by decide) ?_
    refine nE_aload_n dX9_takeNumber_14 rfl rfl ?_
    refine nE_aload_n dX9_takeNumber_15 rfl rfl ?_
    refine nE_getI fl_X9_106 sR_0 rfl dX9_takeNumber_16 ?_
    refine nE_putI fl_X9_116 sR_0 rfl ⟨rfl, rfl⟩ dX9_takeNumber_19 ?_
    refine nE_aload_n dX9_takeNumber_22 rfl rfl ?_
    refine nE_iload_n dX9_takeNumber_23 rfl rfl ?_
    refine nE_i2l dX9_takeNumber_24 ?_
    refine nE_ldc2 kc_X9_126 dX9_takeNumber_25 ?_
    refine nE_ldc2 kc_X9_128 dX9_takeNumber_28 ?_
    refine nE_callS (As := [.long r3.toInt64, .long 48, .long 57]) yf_X9_in ⟨by decide, by decide⟩ rfl sl_X9_95 dX9_takeNumber_31 rfl rfl (Nat.le_of_ble_eq_true rfl) (Nat.le_of_ble_eq_true rfl) (p_X9_in r3 48 57 (by decide) (by decide) ?_)
    refine nE_iconst (v := 1) dX9_takeNumber_34 (by decide) ?_
    refine nE_aload_n dX9_takeNumber_35 rfl rfl ?_
    refine nE_getI fl_X9_106 sR_0 rfl dX9_takeNumber_36 ?_
    refine nE_callV (As := [.int (if ¬ (r3 < 48) ∧ ¬ (57 < r3) then 1 else 0), .int 1, .int (τ2.1 0 17)]) yf_X9_want ⟨by decide, by decide⟩ rfl rfl sR_0 rfl vl_X9_130 dX9_takeNumber_39 rfl rfl (Nat.le_of_ble_eq_true rfl) (Nat.le_of_ble_eq_true rfl) (nE_mono (fun z7 τ5 h => ?_) h)
    obtain ⟨r6, rfl, h⟩ := h
    refine nE_if_ne (tgt := 47) dX9_takeNumber_42 (by decide) ⟨fun c8 => ?_, fun c8 => ?_⟩
    · have h := h.1 c8
      refine nE_iconst (v := 0) dX9_takeNumber_47 (by decide) ?_
      refine nE_istore dX9_takeNumber_48 rfl (by decide) ?_
      refine nE_weak 3 ?_
      exact h
    · have h := h.2 c8
      refine nE_iconst (v := 0) dX9_takeNumber_45 (by decide) ?_
      exact nE_iret dX9_takeNumber_46 rfl h
  · have h := h.2 c1
    refine nE_iconst (v := 0) dX9_takeNumber_7 (by decide) ?_
    exact nE_iret dX9_takeNumber_8 rfl h
set_option maxRecDepth 20000 in
theorem sg_X9_takeNumber_50 (x1 : Int32) (x2 : Int32) (x4 : Int32) {σ : nh_S} {Q : Option Value → nh_S → Prop} (h : (σ.1 0 16 ≤ σ.1 0 17 → (nh_E kX9_want 0 [some (.ref 0), some (.int (if ¬ (4 ≤ (σ.1 0 17) - (σ.1 0 18)) ∧ (¬ (x4 < x1) ∧ ¬ (x2 < x4)) then 1 else 0)), some (.int 2), some (.int (σ.1 0 18))] [] σ (nh_qi fun r3 τ2 => Q (some (.int x4)) τ2))) ∧ (¬ (σ.1 0 16 ≤ σ.1 0 17) → ((vp_in (σ.1 0 17) 600) ∧ (¬ (¬ ((σ.2.1 13 ((σ.1 0 17).toNatClampNeg)) < 48) ∧ ¬ (57 < (σ.2.1 13 ((σ.1 0 17).toNatClampNeg)))) → (nh_E kX9_want 0 [some (.ref 0), some (.int (if ¬ (4 ≤ (σ.1 0 17) - (σ.1 0 18)) ∧ (¬ (x4 < x1) ∧ ¬ (x2 < x4)) then 1 else 0)), some (.int 2), some (.int (σ.1 0 18))] [] σ (nh_qi fun r15 τ14 => Q (some (.int x4)) τ14))) ∧ (¬ ((σ.2.1 13 ((σ.1 0 17).toNatClampNeg)) < 48) ∧ ¬ (57 < (σ.2.1 13 ((σ.1 0 17).toNatClampNeg))) → (nh_E kX9_takeNumber 50 [some (.ref 0), some (.int x1), some (.int x2), none, some (.int (if x4 ≤ 99999 then ((10 * x4) + (σ.2.1 13 ((σ.1 0 17).toNatClampNeg))) - 48 else x4)), none] [] (nh_si σ 0 17 ((σ.1 0 17) + 1)) Q))))) : nh_E kX9_takeNumber 50 [some (.ref 0), some (.int x1), some (.int x2), none, some (.int x4), none] [] σ Q := by
  refine nE_aload_n dX9_takeNumber_50 rfl rfl ?_
  refine nE_getI fl_X9_106 sR_0 rfl dX9_takeNumber_51 ?_
  refine nE_aload_n dX9_takeNumber_54 rfl rfl ?_
  refine nE_getI fl_X9_100 sR_0 rfl dX9_takeNumber_55 ?_
  refine nE_icmp_ge (tgt := 128) dX9_takeNumber_58 (by decide) ⟨fun c1 => ?_, fun c1 => ?_⟩
  · have h := h.1 c1
    refine nE_aload_n dX9_takeNumber_128 rfl rfl ?_
    refine nE_aload_n dX9_takeNumber_129 rfl rfl ?_
    refine nE_getI fl_X9_106 sR_0 rfl dX9_takeNumber_130 ?_
    refine nE_aload_n dX9_takeNumber_133 rfl rfl ?_
    refine nE_getI fl_X9_116 sR_0 rfl dX9_takeNumber_134 ?_
    refine nE_isub dX9_takeNumber_137 ?_
    refine nE_iconst (v := 4) dX9_takeNumber_138 (by decide) ?_
    have j5 : nh_E kX9_takeNumber 160 [some (.ref 0), some (.int x1), some (.int x2), none, some (.int x4), none] [.int (if ¬ (4 ≤ (σ.1 0 17) - (σ.1 0 18)) ∧ (¬ (x4 < x1) ∧ ¬ (x2 < x4)) then 1 else 0), .ref 0] σ Q := by
      refine nE_iconst (v := 2) dX9_takeNumber_160 (by decide) ?_
      refine nE_aload_n dX9_takeNumber_161 rfl rfl ?_
      refine nE_getI fl_X9_116 sR_0 rfl dX9_takeNumber_162 ?_
      refine nE_callV (As := [.int (if ¬ (4 ≤ (σ.1 0 17) - (σ.1 0 18)) ∧ (¬ (x4 < x1) ∧ ¬ (x2 < x4)) then 1 else 0), .int 2, .int (σ.1 0 18)]) yf_X9_want ⟨by decide, by decide⟩ rfl rfl sR_0 rfl vl_X9_130 dX9_takeNumber_165 rfl rfl (Nat.le_of_ble_eq_true rfl) (Nat.le_of_ble_eq_true rfl) (nE_mono (fun z4 τ2 h => ?_) h)
      obtain ⟨r3, rfl, h⟩ := h
      refine nE_istore dX9_takeNumber_168 rfl (by decide) ?_
      refine nE_iload dX9_takeNumber_170 rfl ?_
      exact nE_iret dX9_takeNumber_172 rfl h
    refine nE_icmp_ge (tgt := 159) dX9_takeNumber_139 (by decide) ⟨fun c6 => ?_, fun c6 => ?_⟩
    · skip
      have f7 : (4 ≤ (σ.1 0 17) - (σ.1 0 18)) = True := eq_true c6
      refine nE_iconst (v := 0) dX9_takeNumber_159 (by decide) ?_
      exact nh_topi (show ((if ¬ (4 ≤ (σ.1 0 17) - (σ.1 0 18)) ∧ (¬ (x4 < x1) ∧ ¬ (x2 < x4)) then 1 else 0) : Int32) = 0 from by simp only [if_true, if_false, not_true_eq_false, not_false_eq_true, true_and, and_true, false_and, and_false, true_or, or_true, false_or, or_false, if_pos, if_neg, ite_true, ite_false, f7]) j5
    · skip
      have f8 : (4 ≤ (σ.1 0 17) - (σ.1 0 18)) = False := eq_false c6
      refine nE_iload dX9_takeNumber_142 rfl ?_
      refine nE_i2l dX9_takeNumber_144 ?_
      refine nE_iload_n dX9_takeNumber_145 rfl rfl ?_
      refine nE_i2l dX9_takeNumber_146 ?_
      refine nE_iload_n dX9_takeNumber_147 rfl rfl ?_
      refine nE_i2l dX9_takeNumber_148 ?_
      refine nE_callS (As := [.long x4.toInt64, .long x1.toInt64, .long x2.toInt64]) yf_X9_in ⟨by decide, by decide⟩ rfl sl_X9_95 dX9_takeNumber_149 rfl rfl (Nat.le_of_ble_eq_true rfl) (Nat.le_of_ble_eq_true rfl) (p_X9_in x4 x1 x2 rfl rfl ?_)
      refine nE_ifb_eq (tgt := 159) dX9_takeNumber_152 (by decide) ⟨fun c9 => ?_, fun c9 => ?_⟩
      · skip
        have f10 : (¬ (x4 < x1) ∧ ¬ (x2 < x4)) = False := eq_false c9
        refine nE_iconst (v := 0) dX9_takeNumber_159 (by decide) ?_
        exact nh_topi (show ((if ¬ (4 ≤ (σ.1 0 17) - (σ.1 0 18)) ∧ (¬ (x4 < x1) ∧ ¬ (x2 < x4)) then 1 else 0) : Int32) = 0 from by simp only [if_true, if_false, not_true_eq_false, not_false_eq_true, true_and, and_true, false_and, and_false, true_or, or_true, false_or, or_false, if_pos, if_neg, ite_true, ite_false, f8, f10]) j5
      · skip
        have f11 : (¬ (x4 < x1) ∧ ¬ (x2 < x4)) = True := eq_true c9
        refine nE_iconst (v := 1) dX9_takeNumber_155 (by decide) ?_
        refine nE_goto (tgt := 160) dX9_takeNumber_156 (by decide) ?_
        exact nh_topi (show ((if ¬ (4 ≤ (σ.1 0 17) - (σ.1 0 18)) ∧ (¬ (x4 < x1) ∧ ¬ (x2 < x4)) then 1 else 0) : Int32) = 1 from by simp only [if_true, if_false, not_true_eq_false, not_false_eq_true, true_and, and_true, false_and, and_false, true_or, or_true, false_or, or_false, if_pos, if_neg, ite_true, ite_false, f8, f11]) j5
  · have h := h.2 c1
    refine nE_aload_n dX9_takeNumber_61 rfl rfl ?_
    refine nE_getC fl_X9_47 sR_0 rfl dX9_takeNumber_62 ?_
    refine nE_aload_n dX9_takeNumber_65 rfl rfl ?_
    refine nE_getI fl_X9_106 sR_0 rfl dX9_takeNumber_66 ?_
    obtain ⟨g12, h⟩ := h
    refine nG_iald (j := (σ.1 0 17).toNatClampNeg) sR_13 rfl dX9_takeNumber_69 ⟨g12, ?_⟩
    refine nE_i2l dX9_takeNumber_70 ?_
    refine nE_ldc2 kc_X9_126 dX9_takeNumber_71 ?_
    refine nE_ldc2 kc_X9_128 dX9_takeNumber_74 ?_
    refine nE_callS (As := [.long ((σ.2.1 13 ((σ.1 0 17).toNatClampNeg)).toInt64), .long 48, .long 57]) yf_X9_in ⟨by decide, by decide⟩ rfl sl_X9_95 dX9_takeNumber_77 rfl rfl (Nat.le_of_ble_eq_true rfl) (Nat.le_of_ble_eq_true rfl) (p_X9_in (σ.2.1 13 ((σ.1 0 17).toNatClampNeg)) 48 57 (by decide) (by decide) ?_)
    refine nE_ifb_eq (tgt := 128) dX9_takeNumber_80 (by decide) ⟨fun c13 => ?_, fun c13 => ?_⟩
    · have h := h.1 c13
      refine nE_aload_n dX9_takeNumber_128 rfl rfl ?_
      refine nE_aload_n dX9_takeNumber_129 rfl rfl ?_
      refine nE_getI fl_X9_106 sR_0 rfl dX9_takeNumber_130 ?_
      refine nE_aload_n dX9_takeNumber_133 rfl rfl ?_
      refine nE_getI fl_X9_116 sR_0 rfl dX9_takeNumber_134 ?_
      refine nE_isub dX9_takeNumber_137 ?_
      refine nE_iconst (v := 4) dX9_takeNumber_138 (by decide) ?_
      have j17 : nh_E kX9_takeNumber 160 [some (.ref 0), some (.int x1), some (.int x2), none, some (.int x4), none] [.int (if ¬ (4 ≤ (σ.1 0 17) - (σ.1 0 18)) ∧ (¬ (x4 < x1) ∧ ¬ (x2 < x4)) then 1 else 0), .ref 0] σ Q := by
        refine nE_iconst (v := 2) dX9_takeNumber_160 (by decide) ?_
        refine nE_aload_n dX9_takeNumber_161 rfl rfl ?_
        refine nE_getI fl_X9_116 sR_0 rfl dX9_takeNumber_162 ?_
        refine nE_callV (As := [.int (if ¬ (4 ≤ (σ.1 0 17) - (σ.1 0 18)) ∧ (¬ (x4 < x1) ∧ ¬ (x2 < x4)) then 1 else 0), .int 2, .int (σ.1 0 18)]) yf_X9_want ⟨by decide, by decide⟩ rfl rfl sR_0 rfl vl_X9_130 dX9_takeNumber_165 rfl rfl (Nat.le_of_ble_eq_true rfl) (Nat.le_of_ble_eq_true rfl) (nE_mono (fun z16 τ14 h => ?_) h)
        obtain ⟨r15, rfl, h⟩ := h
        refine nE_istore dX9_takeNumber_168 rfl (by decide) ?_
        refine nE_iload dX9_takeNumber_170 rfl ?_
        exact nE_iret dX9_takeNumber_172 rfl h
      refine nE_icmp_ge (tgt := 159) dX9_takeNumber_139 (by decide) ⟨fun c18 => ?_, fun c18 => ?_⟩
      · skip
        have f19 : (4 ≤ (σ.1 0 17) - (σ.1 0 18)) = True := eq_true c18
        refine nE_iconst (v := 0) dX9_takeNumber_159 (by decide) ?_
        exact nh_topi (show ((if ¬ (4 ≤ (σ.1 0 17) - (σ.1 0 18)) ∧ (¬ (x4 < x1) ∧ ¬ (x2 < x4)) then 1 else 0) : Int32) = 0 from by simp only [if_true, if_false, not_true_eq_false, not_false_eq_true, true_and, and_true, false_and, and_false, true_or, or_true, false_or, or_false, if_pos, if_neg, ite_true, ite_false, f19]) j17
      · skip
        have f20 : (4 ≤ (σ.1 0 17) - (σ.1 0 18)) = False := eq_false c18
        refine nE_iload dX9_takeNumber_142 rfl ?_
        refine nE_i2l dX9_takeNumber_144 ?_
        refine nE_iload_n dX9_takeNumber_145 rfl rfl ?_
        refine nE_i2l dX9_takeNumber_146 ?_
        refine nE_iload_n dX9_takeNumber_147 rfl rfl ?_
        refine nE_i2l dX9_takeNumber_148 ?_
        refine nE_callS (As := [.long x4.toInt64, .long x1.toInt64, .long x2.toInt64]) yf_X9_in ⟨by decide, by decide⟩ rfl sl_X9_95 dX9_takeNumber_149 rfl rfl (Nat.le_of_ble_eq_true rfl) (Nat.le_of_ble_eq_true rfl) (p_X9_in x4 x1 x2 rfl rfl ?_)
        refine nE_ifb_eq (tgt := 159) dX9_takeNumber_152 (by decide) ⟨fun c21 => ?_, fun c21 => ?_⟩
        · skip
          have f22 : (¬ (x4 < x1) ∧ ¬ (x2 < x4)) = False := eq_false c21
          refine nE_iconst (v := 0) dX9_takeNumber_159 (by decide) ?_
          exact nh_topi (show ((if ¬ (4 ≤ (σ.1 0 17) - (σ.1 0 18)) ∧ (¬ (x4 < x1) ∧ ¬ (x2 < x4)) then 1 else 0) : Int32) = 0 from by simp only [if_true, if_false, not_true_eq_false, not_false_eq_true, true_and, and_true, false_and, and_false, true_or, or_true, false_or, or_false, if_pos, if_neg, ite_true, ite_false, f20, f22]) j17
        · skip
          have f23 : (¬ (x4 < x1) ∧ ¬ (x2 < x4)) = True := eq_true c21
          refine nE_iconst (v := 1) dX9_takeNumber_155 (by decide) ?_
          refine nE_goto (tgt := 160) dX9_takeNumber_156 (by decide) ?_
          exact nh_topi (show ((if ¬ (4 ≤ (σ.1 0 17) - (σ.1 0 18)) ∧ (¬ (x4 < x1) ∧ ¬ (x2 < x4)) then 1 else 0) : Int32) = 1 from by simp only [if_true, if_false, not_true_eq_false, not_false_eq_true, true_and, and_true, false_and, and_false, true_or, or_true, false_or, or_false, if_pos, if_neg, ite_true, ite_false, f20, f23]) j17
    · have h := h.2 c13
      refine nE_iload dX9_takeNumber_83 rfl ?_
      refine nE_ldc kc_X9_134 dX9_takeNumber_85 ?_
      have j24 : nh_E kX9_takeNumber 113 [some (.ref 0), some (.int x1), some (.int x2), none, some (.int x4), none] [.int (if x4 ≤ 99999 then ((10 * x4) + (σ.2.1 13 ((σ.1 0 17).toNatClampNeg))) - 48 else x4)] σ Q := by
        refine nE_istore dX9_takeNumber_113 rfl (by decide) ?_
        refine nE_aload_n dX9_takeNumber_115 rfl rfl ?_
        refine nE_dup dX9_takeNumber_116 rfl ?_
        refine nE_getI fl_X9_106 sR_0 rfl dX9_takeNumber_117 ?_
        refine nE_iconst (v := 1) dX9_takeNumber_120 (by decide) ?_
        refine nE_iadd dX9_takeNumber_121 ?_
        refine nE_putI fl_X9_106 sR_0 rfl ⟨rfl, rfl⟩ dX9_takeNumber_122 ?_
        refine nE_goto (tgt := 50) dX9_takeNumber_125 (by decide) ?_
        exact h
      refine nE_icmp_le (tgt := 95) dX9_takeNumber_87 (by decide) ⟨fun c25 => ?_, fun c25 => ?_⟩
      · skip
        have f26 : (x4 ≤ 99999) = True := eq_true c25
        refine nE_bipush (v := 10) dX9_takeNumber_95 (by decide) ?_
        refine nE_iload dX9_takeNumber_97 rfl ?_
        refine nE_imul dX9_takeNumber_99 ?_
        refine nE_aload_n dX9_takeNumber_100 rfl rfl ?_
        refine nE_getC fl_X9_47 sR_0 rfl dX9_takeNumber_101 ?_
        refine nE_aload_n dX9_takeNumber_104 rfl rfl ?_
        refine nE_getI fl_X9_106 sR_0 rfl dX9_takeNumber_105 ?_
        refine nG_iald (j := (σ.1 0 17).toNatClampNeg) sR_13 rfl dX9_takeNumber_108 ⟨g12, ?_⟩
        refine nE_iadd dX9_takeNumber_109 ?_
        refine nE_bipush (v := 48) dX9_takeNumber_110 (by decide) ?_
        refine nE_isub dX9_takeNumber_112 ?_
        exact nh_topi (show ((if x4 ≤ 99999 then ((10 * x4) + (σ.2.1 13 ((σ.1 0 17).toNatClampNeg))) - 48 else x4) : Int32) = ((10 * x4) + (σ.2.1 13 ((σ.1 0 17).toNatClampNeg))) - 48 from by simp only [if_true, if_false, not_true_eq_false, not_false_eq_true, true_and, and_true, false_and, and_false, true_or, or_true, false_or, or_false, if_pos, if_neg, ite_true, ite_false, f26]) j24
      · skip
        have f27 : (x4 ≤ 99999) = False := eq_false c25
        refine nE_iload dX9_takeNumber_90 rfl ?_
        refine nE_goto (tgt := 113) dX9_takeNumber_92 (by decide) ?_
        exact nh_topi (show ((if x4 ≤ 99999 then ((10 * x4) + (σ.2.1 13 ((σ.1 0 17).toNatClampNeg))) - 48 else x4) : Int32) = x4 from by simp only [if_true, if_false, not_true_eq_false, not_false_eq_true, true_and, and_true, false_and, and_false, true_or, or_true, false_or, or_false, if_pos, if_neg, ite_true, ite_false, f27]) j24
set_option maxRecDepth 20000 in
theorem sg_X9_takeEnd_0  {σ : nh_S} {Q : Option Value → nh_S → Prop} (h : (¬ (σ.1 0 20 = 0) → (Q none σ)) ∧ (σ.1 0 20 = 0 → (nh_E kX9_here 0 [some (.ref 0)] [] σ (nh_qi fun r3 τ2 => nh_E kX9_want 0 [some (.ref 0), some (.int (if r3 = 59 then 1 else 0)), some (.int 1), some (.int (τ2.1 0 17))] [] τ2 (nh_qi fun r6 τ5 => (r6 = 0 → (Q none τ5)) ∧ (¬ (r6 = 0) → (Q none (nh_si τ5 0 17 ((τ5.1 0 17) + 1))))))))) : nh_E kX9_takeEnd 0 [some (.ref 0)] [] σ Q := by
  refine nE_aload_n dX9_takeEnd_0 rfl rfl ?_
  refine nE_getI fl_X9_109 sR_0 rfl dX9_takeEnd_1 ?_
  refine nE_if_ne (tgt := 43) dX9_takeEnd_4 (by decide) ⟨fun c1 => ?_, fun c1 => ?_⟩
  · have h := h.1 c1
    exact nE_vret dX9_takeEnd_43 rfl h
  · have h := h.2 c1
    refine nE_aload_n dX9_takeEnd_7 rfl rfl ?_
    refine nE_aload_n dX9_takeEnd_8 rfl rfl ?_
    refine nE_callV (As := []) yf_X9_here ⟨by decide, by decide⟩ rfl rfl sR_0 rfl vl_X9_112 dX9_takeEnd_9 rfl rfl (Nat.le_of_ble_eq_true rfl) (Nat.le_of_ble_eq_true rfl) (nE_mono (fun z4 τ2 h => ?_) h)
    obtain ⟨r3, rfl, h⟩ := h
    refine nE_bipush (v := 59) dX9_takeEnd_12 (by decide) ?_
    have j9 : nh_E kX9_takeEnd 22 [some (.ref 0)] [.int (if r3 = 59 then 1 else 0), .ref 0] τ2 Q := by
      refine nE_iconst (v := 1) dX9_takeEnd_22 (by decide) ?_
      refine nE_aload_n dX9_takeEnd_23 rfl rfl ?_
      refine nE_getI fl_X9_106 sR_0 rfl dX9_takeEnd_24 ?_
      refine nE_callV (As := [.int (if r3 = 59 then 1 else 0), .int 1, .int (τ2.1 0 17)]) yf_X9_want ⟨by decide, by decide⟩ rfl rfl sR_0 rfl vl_X9_130 dX9_takeEnd_27 rfl rfl (Nat.le_of_ble_eq_true rfl) (Nat.le_of_ble_eq_true rfl) (nE_mono (fun z7 τ5 h => ?_) h)
      obtain ⟨r6, rfl, h⟩ := h
      refine nE_if_eq (tgt := 43) dX9_takeEnd_30 (by decide) ⟨fun c8 => ?_, fun c8 => ?_⟩
      · have h := h.1 c8
        exact nE_vret dX9_takeEnd_43 rfl h
      · have h := h.2 c8
        refine nE_aload_n dX9_takeEnd_33 rfl rfl ?_
        refine nE_dup dX9_takeEnd_34 rfl ?_
        refine nE_getI fl_X9_106 sR_0 rfl dX9_takeEnd_35 ?_
        refine nE_iconst (v := 1) dX9_takeEnd_38 (by decide) ?_
        refine nE_iadd dX9_takeEnd_39 ?_
        refine nE_putI fl_X9_106 sR_0 rfl ⟨rfl, rfl⟩ dX9_takeEnd_40 ?_
        exact nE_vret dX9_takeEnd_43 rfl h
    refine nE_icmp_ne (tgt := 21) dX9_takeEnd_14 (by decide) ⟨fun c10 => ?_, fun c10 => ?_⟩
    · skip
      have f11 : (r3 = 59) = False := eq_false c10
      refine nE_iconst (v := 0) dX9_takeEnd_21 (by decide) ?_
      exact nh_topi (show ((if r3 = 59 then 1 else 0) : Int32) = 0 from by simp only [if_true, if_false, not_true_eq_false, not_false_eq_true, true_and, and_true, false_and, and_false, true_or, or_true, false_or, or_false, if_pos, if_neg, ite_true, ite_false, f11]) j9
    · skip
      have f12 : (r3 = 59) = True := eq_true c10
      refine nE_iconst (v := 1) dX9_takeEnd_17 (by decide) ?_
      refine nE_goto (tgt := 22) dX9_takeEnd_18 (by decide) ?_
      exact nh_topi (show ((if r3 = 59 then 1 else 0) : Int32) = 1 from by simp only [if_true, if_false, not_true_eq_false, not_false_eq_true, true_and, and_true, false_and, and_false, true_or, or_true, false_or, or_false, if_pos, if_neg, ite_true, ite_false, f12]) j9
set_option maxRecDepth 20000 in
theorem sg_X9_beginReading_0  {σ : nh_S} {Q : Option Value → nh_S → Prop} (h : Q none (nh_si (nh_si (nh_si σ 0 17 0) 0 20 0) 0 21 (-1))) : nh_E kX9_beginReading 0 [some (.ref 0)] [] σ Q := by
  refine nE_aload_n dX9_beginReading_0 rfl rfl ?_
  refine nE_iconst (v := 0) dX9_beginReading_1 (by decide) ?_
  refine nE_putI fl_X9_106 sR_0 rfl ⟨rfl, rfl⟩ dX9_beginReading_2 ?_
  refine nE_aload_n dX9_beginReading_5 rfl rfl ?_
  refine nE_iconst (v := 0) dX9_beginReading_6 (by decide) ?_
  refine nE_putI fl_X9_109 sR_0 rfl ⟨rfl, rfl⟩ dX9_beginReading_7 ?_
  refine nE_aload_n dX9_beginReading_10 rfl rfl ?_
  refine nE_iconst (v := (-1)) dX9_beginReading_11 (by decide) ?_
  refine nE_putI fl_X9_50 sR_0 rfl ⟨rfl, rfl⟩ dX9_beginReading_12 ?_
  exact nE_vret dX9_beginReading_15 rfl h
set_option maxRecDepth 20000 in
theorem sg_X9_takeHouse_0 (x1 : Int32) {σ : nh_S} {Q : Option Value → nh_S → Prop} (h : nh_E kX9_want 0 [some (.ref 0), some (.int (if ¬ (9 ≤ σ.2.1 9 2) then 1 else 0)), some (.int 3), some (.int x1)] [] σ (nh_qi fun r2 τ1 => (r2 = 0 → (Q none τ1)) ∧ (¬ (r2 = 0) → (nh_E kX9_takeHouse 29 [some (.ref 0), none, some (.int (σ.2.1 9 2)), some (.int 0)] [] τ1 Q)))) : nh_E kX9_takeHouse 0 [some (.ref 0), some (.int x1), none, none] [] σ Q := by
  refine nE_aload_n dX9_takeHouse_0 rfl rfl ?_
  refine nE_getC fl_X9_35 sR_0 rfl dX9_takeHouse_1 ?_
  refine nE_iconst (v := 2) dX9_takeHouse_4 (by decide) ?_
  refine nG_iald (j := 2) sR_9 (by decide) dX9_takeHouse_5 ⟨(nh_vi (by decide)), ?_⟩
  refine nE_istore_n dX9_takeHouse_6 rfl rfl (by decide) ?_
  refine nE_aload_n dX9_takeHouse_7 rfl rfl ?_
  refine nE_iload_n dX9_takeHouse_8 rfl rfl ?_
  refine nE_bipush (v := 9) dX9_takeHouse_9 (by decide) ?_
  have j5 : nh_E kX9_takeHouse 19 [some (.ref 0), some (.int x1), some (.int (σ.2.1 9 2)), none] [.int (if ¬ (9 ≤ σ.2.1 9 2) then 1 else 0), .ref 0] σ Q := by
    refine nE_iconst (v := 3) dX9_takeHouse_19 (by decide) ?_
    refine nE_iload_n dX9_takeHouse_20 rfl rfl ?_
    refine nE_callV (As := [.int (if ¬ (9 ≤ σ.2.1 9 2) then 1 else 0), .int 3, .int x1]) yf_X9_want ⟨by decide, by decide⟩ rfl rfl sR_0 rfl vl_X9_130 dX9_takeHouse_21 rfl rfl (Nat.le_of_ble_eq_true rfl) (Nat.le_of_ble_eq_true rfl) (nE_mono (fun z3 τ1 h => ?_) h)
    obtain ⟨r2, rfl, h⟩ := h
    refine nE_if_eq (tgt := 81) dX9_takeHouse_24 (by decide) ⟨fun c4 => ?_, fun c4 => ?_⟩
    · have h := h.1 c4
      exact nE_vret dX9_takeHouse_81 rfl h
    · have h := h.2 c4
      refine nE_iconst (v := 0) dX9_takeHouse_27 (by decide) ?_
      refine nE_istore_n dX9_takeHouse_28 rfl rfl (by decide) ?_
      refine nE_weak 1 ?_
      exact h
  refine nE_icmp_ge (tgt := 18) dX9_takeHouse_11 (by decide) ⟨fun c6 => ?_, fun c6 => ?_⟩
  · skip
    have f7 : (9 ≤ σ.2.1 9 2) = True := eq_true c6
    refine nE_iconst (v := 0) dX9_takeHouse_18 (by decide) ?_
    exact nh_topi (show ((if ¬ (9 ≤ σ.2.1 9 2) then 1 else 0) : Int32) = 0 from by simp only [if_true, if_false, not_true_eq_false, not_false_eq_true, true_and, and_true, false_and, and_false, true_or, or_true, false_or, or_false, if_pos, if_neg, ite_true, ite_false, f7]) j5
  · skip
    have f8 : (9 ≤ σ.2.1 9 2) = False := eq_false c6
    refine nE_iconst (v := 1) dX9_takeHouse_14 (by decide) ?_
    refine nE_goto (tgt := 19) dX9_takeHouse_15 (by decide) ?_
    exact nh_topi (show ((if ¬ (9 ≤ σ.2.1 9 2) then 1 else 0) : Int32) = 1 from by simp only [if_true, if_false, not_true_eq_false, not_false_eq_true, true_and, and_true, false_and, and_false, true_or, or_true, false_or, or_false, if_pos, if_neg, ite_true, ite_false, f8]) j5
set_option maxRecDepth 20000 in
theorem sg_X9_takeHouse_29 (x2 : Int32) (x3 : Int32) {σ : nh_S} {Q : Option Value → nh_S → Prop} (h : (6 ≤ x3 → (Q none (nh_wa σ 9 2 (x2 + 1)))) ∧ (¬ (6 ≤ x3) → (nh_E kX9_takeNumber 0 [some (.ref 0), some (.int 0), some (.int (if 2 ≤ x3 then 100 else 60)), none, none, none] [] σ (nh_qi fun r3 τ2 => (vp_in ((54 + (6 * x2)) + x3) 108) ∧ nh_E kX9_takeHouse 29 [some (.ref 0), none, some (.int x2), some (.int (x3 + 1))] [] (nh_wa τ2 3 (((54 + (6 * x2)) + x3).toNatClampNeg) r3) Q)))) : nh_E kX9_takeHouse 29 [some (.ref 0), none, some (.int x2), some (.int x3)] [] σ Q := by
  refine nE_iload_n dX9_takeHouse_29 rfl rfl ?_
  refine nE_bipush (v := 6) dX9_takeHouse_30 (by decide) ?_
  refine nE_icmp_ge (tgt := 72) dX9_takeHouse_32 (by decide) ⟨fun c1 => ?_, fun c1 => ?_⟩
  · have h := h.1 c1
    refine nE_aload_n dX9_takeHouse_72 rfl rfl ?_
    refine nE_getC fl_X9_35 sR_0 rfl dX9_takeHouse_73 ?_
    refine nE_iconst (v := 2) dX9_takeHouse_76 (by decide) ?_
    refine nE_iload_n dX9_takeHouse_77 rfl rfl ?_
    refine nE_iconst (v := 1) dX9_takeHouse_78 (by decide) ?_
    refine nE_iadd dX9_takeHouse_79 ?_
    refine nG_iast (j := 2) sR_9 (by decide) dX9_takeHouse_80 ⟨(nh_vi (by decide)), ?_⟩
    exact nE_vret dX9_takeHouse_81 rfl h
  · have h := h.2 c1
    refine nE_aload_n dX9_takeHouse_35 rfl rfl ?_
    refine nE_getC fl_X9_17 sR_0 rfl dX9_takeHouse_36 ?_
    refine nE_bipush (v := 54) dX9_takeHouse_39 (by decide) ?_
    refine nE_bipush (v := 6) dX9_takeHouse_41 (by decide) ?_
    refine nE_iload_n dX9_takeHouse_43 rfl rfl ?_
    refine nE_imul dX9_takeHouse_44 ?_
    refine nE_iadd dX9_takeHouse_45 ?_
    refine nE_iload_n dX9_takeHouse_46 rfl rfl ?_
    refine nE_iadd dX9_takeHouse_47 ?_
    refine nE_aload_n dX9_takeHouse_48 rfl rfl ?_
    refine nE_iconst (v := 0) dX9_takeHouse_49 (by decide) ?_
    refine nE_iload_n dX9_takeHouse_50 rfl rfl ?_
    refine nE_iconst (v := 2) dX9_takeHouse_51 (by decide) ?_
    have j6 : nh_E kX9_takeHouse 62 [some (.ref 0), none, some (.int x2), some (.int x3)] [.int (if 2 ≤ x3 then 100 else 60), .int 0, .ref 0, .int ((54 + (6 * x2)) + x3), .ref 3] σ Q := by
      refine nE_callV (As := [.int 0, .int (if 2 ≤ x3 then 100 else 60)]) yf_X9_takeNumber ⟨by decide, by decide⟩ rfl rfl sR_0 rfl vl_X9_135 dX9_takeHouse_62 rfl rfl (Nat.le_of_ble_eq_true rfl) (Nat.le_of_ble_eq_true rfl) (nE_mono (fun z4 τ2 h => ?_) h)
      obtain ⟨r3, rfl, h⟩ := h
      obtain ⟨g5, h⟩ := h
      refine nG_iast (j := ((54 + (6 * x2)) + x3).toNatClampNeg) sR_3 rfl dX9_takeHouse_65 ⟨g5, ?_⟩
      refine nE_iinc (v := x3 + 1) dX9_takeHouse_66 rfl rfl (by decide) rfl ?_
      refine nE_goto (tgt := 29) dX9_takeHouse_69 (by decide) ?_
      exact h
    refine nE_icmp_ge (tgt := 60) dX9_takeHouse_52 (by decide) ⟨fun c7 => ?_, fun c7 => ?_⟩
    · skip
      have f8 : (2 ≤ x3) = True := eq_true c7
      refine nE_bipush (v := 100) dX9_takeHouse_60 (by decide) ?_
      exact nh_topi (show ((if 2 ≤ x3 then 100 else 60) : Int32) = 100 from by simp only [if_true, if_false, not_true_eq_false, not_false_eq_true, true_and, and_true, false_and, and_false, true_or, or_true, false_or, or_false, if_pos, if_neg, ite_true, ite_false, f8]) j6
    · skip
      have f9 : (2 ≤ x3) = False := eq_false c7
      refine nE_bipush (v := 60) dX9_takeHouse_55 (by decide) ?_
      refine nE_goto (tgt := 62) dX9_takeHouse_57 (by decide) ?_
      exact nh_topi (show ((if 2 ≤ x3 then 100 else 60) : Int32) = 60 from by simp only [if_true, if_false, not_true_eq_false, not_false_eq_true, true_and, and_true, false_and, and_false, true_or, or_true, false_or, or_false, if_pos, if_neg, ite_true, ite_false, f9]) j6
set_option maxRecDepth 20000 in
theorem sg_X9_takeWay_0  {σ : nh_S} {Q : Option Value → nh_S → Prop} (h : nh_E kX9_takeNumber 0 [some (.ref 0), some (.int 0), some (.int ((σ.2.1 9 2) - 1)), none, none, none] [] σ (nh_qi fun r2 τ1 => nh_E kX9_takeNumber 0 [some (.ref 0), some (.int 0), some (.int ((τ1.2.1 9 2) - 1)), none, none, none] [] τ1 (nh_qi fun r5 τ4 => (¬ (τ4.1 0 20 = 0) → (Q none τ4)) ∧ (τ4.1 0 20 = 0 → (((¬ (r2 = r5) → (vp_in ((81 + (9 * r2)) + r5) 162))) ∧ nh_E kX9_want 0 [some (.ref 0), some (.int (if ¬ (r2 = r5) ∧ (τ4.2.1 4 (((81 + (9 * r2)) + r5).toNatClampNeg) = 0) then 1 else 0)), some (.int 4), some (.int (τ4.1 0 18))] [] τ4 (nh_qi fun r11 τ10 => (r11 = 0 → (Q none τ10)) ∧ (¬ (r11 = 0) → (nh_E kX9_takeNumber 0 [some (.ref 0), some (.int 1), some (.int 99), none, none, none] [] τ10 (nh_qi fun r15 τ14 => (vp_in ((81 + (9 * r2)) + r5) 162) ∧ (vp_in ((81 + (9 * r5)) + r2) 162) ∧ Q none (nh_wa (nh_wa τ14 4 (((81 + (9 * r2)) + r5).toNatClampNeg) r15) 4 (((81 + (9 * r5)) + r2).toNatClampNeg) r15)))))))))) : nh_E kX9_takeWay 0 [some (.ref 0), none, none, none] [] σ Q := by
  refine nE_aload_n dX9_takeWay_0 rfl rfl ?_
  refine nE_iconst (v := 0) dX9_takeWay_1 (by decide) ?_
  refine nE_aload_n dX9_takeWay_2 rfl rfl ?_
  refine nE_getC fl_X9_35 sR_0 rfl dX9_takeWay_3 ?_
  refine nE_iconst (v := 2) dX9_takeWay_6 (by decide) ?_
  refine nG_iald (j := 2) sR_9 (by decide) dX9_takeWay_7 ⟨(nh_vi (by decide)), ?_⟩
  refine nE_iconst (v := 1) dX9_takeWay_8 (by decide) ?_
  refine nE_isub dX9_takeWay_9 ?_
  refine nE_callV (As := [.int 0, .int ((σ.2.1 9 2) - 1)]) yf_X9_takeNumber ⟨by decide, by decide⟩ rfl rfl sR_0 rfl vl_X9_135 dX9_takeWay_10 rfl rfl (Nat.le_of_ble_eq_true rfl) (Nat.le_of_ble_eq_true rfl) (nE_mono (fun z3 τ1 h => ?_) h)
  obtain ⟨r2, rfl, h⟩ := h
  refine nE_istore_n dX9_takeWay_13 rfl rfl (by decide) ?_
  refine nE_aload_n dX9_takeWay_14 rfl rfl ?_
  refine nE_iconst (v := 0) dX9_takeWay_15 (by decide) ?_
  refine nE_aload_n dX9_takeWay_16 rfl rfl ?_
  refine nE_getC fl_X9_35 sR_0 rfl dX9_takeWay_17 ?_
  refine nE_iconst (v := 2) dX9_takeWay_20 (by decide) ?_
  refine nG_iald (j := 2) sR_9 (by decide) dX9_takeWay_21 ⟨(nh_vi (by decide)), ?_⟩
  refine nE_iconst (v := 1) dX9_takeWay_22 (by decide) ?_
  refine nE_isub dX9_takeWay_23 ?_
  refine nE_callV (As := [.int 0, .int ((τ1.2.1 9 2) - 1)]) yf_X9_takeNumber ⟨by decide, by decide⟩ rfl rfl sR_0 rfl vl_X9_135 dX9_takeWay_24 rfl rfl (Nat.le_of_ble_eq_true rfl) (Nat.le_of_ble_eq_true rfl) (nE_mono (fun z6 τ4 h => ?_) h)
  obtain ⟨r5, rfl, h⟩ := h
  refine nE_istore_n dX9_takeWay_27 rfl rfl (by decide) ?_
  refine nE_aload_n dX9_takeWay_28 rfl rfl ?_
  refine nE_getI fl_X9_109 sR_0 rfl dX9_takeWay_29 ?_
  refine nE_if_ne (tgt := 112) dX9_takeWay_32 (by decide) ⟨fun c7 => ?_, fun c7 => ?_⟩
  · have h := h.1 c7
    exact nE_vret dX9_takeWay_112 rfl h
  · have h := h.2 c7
    refine nE_aload_n dX9_takeWay_35 rfl rfl ?_
    refine nE_iload_n dX9_takeWay_36 rfl rfl ?_
    refine nE_iload_n dX9_takeWay_37 rfl rfl ?_
    obtain ⟨u9, h⟩ := h
    have j19 : nh_E kX9_takeWay 63 [some (.ref 0), some (.int r2), some (.int r5), none] [.int (if ¬ (r2 = r5) ∧ (τ4.2.1 4 (((81 + (9 * r2)) + r5).toNatClampNeg) = 0) then 1 else 0), .ref 0] τ4 Q := by
      refine nE_iconst (v := 4) dX9_takeWay_63 (by decide) ?_
      refine nE_aload_n dX9_takeWay_64 rfl rfl ?_
      refine nE_getI fl_X9_116 sR_0 rfl dX9_takeWay_65 ?_
      refine nE_callV (As := [.int (if ¬ (r2 = r5) ∧ (τ4.2.1 4 (((81 + (9 * r2)) + r5).toNatClampNeg) = 0) then 1 else 0), .int 4, .int (τ4.1 0 18)]) yf_X9_want ⟨by decide, by decide⟩ rfl rfl sR_0 rfl vl_X9_130 dX9_takeWay_68 rfl rfl (Nat.le_of_ble_eq_true rfl) (Nat.le_of_ble_eq_true rfl) (nE_mono (fun z12 τ10 h => ?_) h)
      obtain ⟨r11, rfl, h⟩ := h
      refine nE_if_eq (tgt := 112) dX9_takeWay_71 (by decide) ⟨fun c13 => ?_, fun c13 => ?_⟩
      · have h := h.1 c13
        exact nE_vret dX9_takeWay_112 rfl h
      · have h := h.2 c13
        refine nE_aload_n dX9_takeWay_74 rfl rfl ?_
        refine nE_iconst (v := 1) dX9_takeWay_75 (by decide) ?_
        refine nE_bipush (v := 99) dX9_takeWay_76 (by decide) ?_
        refine nE_callV (As := [.int 1, .int 99]) yf_X9_takeNumber ⟨by decide, by decide⟩ rfl rfl sR_0 rfl vl_X9_135 dX9_takeWay_78 rfl rfl (Nat.le_of_ble_eq_true rfl) (Nat.le_of_ble_eq_true rfl) (nE_mono (fun z16 τ14 h => ?_) h)
        obtain ⟨r15, rfl, h⟩ := h
        refine nE_istore_n dX9_takeWay_81 rfl rfl (by decide) ?_
        refine nE_aload_n dX9_takeWay_82 rfl rfl ?_
        refine nE_getC fl_X9_20 sR_0 rfl dX9_takeWay_83 ?_
        refine nE_bipush (v := 81) dX9_takeWay_86 (by decide) ?_
        refine nE_bipush (v := 9) dX9_takeWay_88 (by decide) ?_
        refine nE_iload_n dX9_takeWay_90 rfl rfl ?_
        refine nE_imul dX9_takeWay_91 ?_
        refine nE_iadd dX9_takeWay_92 ?_
        refine nE_iload_n dX9_takeWay_93 rfl rfl ?_
        refine nE_iadd dX9_takeWay_94 ?_
        refine nE_iload_n dX9_takeWay_95 rfl rfl ?_
        obtain ⟨g17, h⟩ := h
        refine nG_iast (j := ((81 + (9 * r2)) + r5).toNatClampNeg) sR_4 rfl dX9_takeWay_96 ⟨g17, ?_⟩
        refine nE_aload_n dX9_takeWay_97 rfl rfl ?_
        refine nE_getC fl_X9_20 sR_0 rfl dX9_takeWay_98 ?_
        refine nE_bipush (v := 81) dX9_takeWay_101 (by decide) ?_
        refine nE_bipush (v := 9) dX9_takeWay_103 (by decide) ?_
        refine nE_iload_n dX9_takeWay_105 rfl rfl ?_
        refine nE_imul dX9_takeWay_106 ?_
        refine nE_iadd dX9_takeWay_107 ?_
        refine nE_iload_n dX9_takeWay_108 rfl rfl ?_
        refine nE_iadd dX9_takeWay_109 ?_
        refine nE_iload_n dX9_takeWay_110 rfl rfl ?_
        obtain ⟨g18, h⟩ := h
        refine nG_iast (j := ((81 + (9 * r5)) + r2).toNatClampNeg) sR_4 rfl dX9_takeWay_111 ⟨g18, ?_⟩
        exact nE_vret dX9_takeWay_112 rfl h
    have u20 := u9
    refine nE_icmp_eq (tgt := 62) dX9_takeWay_38 (by decide) ⟨fun c21 => ?_, fun c21 => ?_⟩
    · skip
      have f22 : (r2 = r5) = True := eq_true c21
      refine nE_iconst (v := 0) dX9_takeWay_62 (by decide) ?_
      exact nh_topi (show ((if ¬ (r2 = r5) ∧ (τ4.2.1 4 (((81 + (9 * r2)) + r5).toNatClampNeg) = 0) then 1 else 0) : Int32) = 0 from by simp only [if_true, if_false, not_true_eq_false, not_false_eq_true, true_and, and_true, false_and, and_false, true_or, or_true, false_or, or_false, if_pos, if_neg, ite_true, ite_false, f22]) j19
    · skip
      have f23 : (r2 = r5) = False := eq_false c21
      have g8 := (u20 c21)
      refine nE_aload_n dX9_takeWay_41 rfl rfl ?_
      refine nE_getC fl_X9_20 sR_0 rfl dX9_takeWay_42 ?_
      refine nE_bipush (v := 81) dX9_takeWay_45 (by decide) ?_
      refine nE_bipush (v := 9) dX9_takeWay_47 (by decide) ?_
      refine nE_iload_n dX9_takeWay_49 rfl rfl ?_
      refine nE_imul dX9_takeWay_50 ?_
      refine nE_iadd dX9_takeWay_51 ?_
      refine nE_iload_n dX9_takeWay_52 rfl rfl ?_
      refine nE_iadd dX9_takeWay_53 ?_
      refine nG_iald (j := ((81 + (9 * r2)) + r5).toNatClampNeg) sR_4 rfl dX9_takeWay_54 ⟨g8, ?_⟩
      refine nE_if_ne (tgt := 62) dX9_takeWay_55 (by decide) ⟨fun c24 => ?_, fun c24 => ?_⟩
      · skip
        have f25 : (τ4.2.1 4 (((81 + (9 * r2)) + r5).toNatClampNeg) = 0) = False := eq_false c24
        refine nE_iconst (v := 0) dX9_takeWay_62 (by decide) ?_
        exact nh_topi (show ((if ¬ (r2 = r5) ∧ (τ4.2.1 4 (((81 + (9 * r2)) + r5).toNatClampNeg) = 0) then 1 else 0) : Int32) = 0 from by simp only [if_true, if_false, not_true_eq_false, not_false_eq_true, true_and, and_true, false_and, and_false, true_or, or_true, false_or, or_false, if_pos, if_neg, ite_true, ite_false, f23, f25]) j19
      · skip
        have f26 : (τ4.2.1 4 (((81 + (9 * r2)) + r5).toNatClampNeg) = 0) = True := eq_true c24
        refine nE_iconst (v := 1) dX9_takeWay_58 (by decide) ?_
        refine nE_goto (tgt := 63) dX9_takeWay_59 (by decide) ?_
        exact nh_topi (show ((if ¬ (r2 = r5) ∧ (τ4.2.1 4 (((81 + (9 * r2)) + r5).toNatClampNeg) = 0) then 1 else 0) : Int32) = 1 from by simp only [if_true, if_false, not_true_eq_false, not_false_eq_true, true_and, and_true, false_and, and_false, true_or, or_true, false_or, or_false, if_pos, if_neg, ite_true, ite_false, f23, f26]) j19
set_option maxRecDepth 20000 in
theorem sg_X9_takePart_0 (x1 : Int32) {σ : nh_S} {Q : Option Value → nh_S → Prop} (h : nh_E kX9_want 0 [some (.ref 0), some (.int (if ¬ (12 ≤ σ.2.1 9 3) then 1 else 0)), some (.int 3), some (.int x1)] [] σ (nh_qi fun r2 τ1 => (r2 = 0 → (Q none τ1)) ∧ (¬ (r2 = 0) → (nh_E kX9_takeNumber 0 [some (.ref 0), some (.int 0), some (.int ((τ1.2.1 9 2) - 1)), none, none, none] [] τ1 (nh_qi fun r6 τ5 => (vp_in (12 + (σ.2.1 9 3)) 24) ∧ nh_E kX9_takeNumber 0 [some (.ref 0), some (.int 0), some (.int 60), none, none, none] [] (nh_wa τ5 5 ((12 + (σ.2.1 9 3)).toNatClampNeg) r6) (nh_qi fun r10 τ9 => (vp_in (12 + (σ.2.1 9 3)) 24) ∧ nh_E kX9_takeNumber 0 [some (.ref 0), some (.int 0), some (.int 99), none, none, none] [] (nh_wa τ9 6 ((12 + (σ.2.1 9 3)).toNatClampNeg) r10) (nh_qi fun r14 τ13 => (vp_in (12 + (σ.2.1 9 3)) 24) ∧ (¬ (τ13.1 0 20 = 0) → (Q none (nh_wa (nh_wa (nh_wa τ13 7 ((12 + (σ.2.1 9 3)).toNatClampNeg) r14) 8 ((12 + (σ.2.1 9 3)).toNatClampNeg) 0) 9 3 ((σ.2.1 9 3) + 1)))) ∧ (τ13.1 0 20 = 0 → (nh_E kX9_takeWord 0 [some (.ref 0), none] [] (nh_wa (nh_wa τ13 7 ((12 + (σ.2.1 9 3)).toNatClampNeg) r14) 8 ((12 + (σ.2.1 9 3)).toNatClampNeg) 0) (nh_qv fun τ18 => nh_E kX9_isWord 0 [some (.ref 0), some (.int 2), some (.int 111), some (.int 110), some (.int 0), some (.int 0), some (.int 0), none, none] [] τ18 (nh_qi fun r22 τ21 => nh_E kX9_takePart 134 [some (.ref 0), none, some (.int (σ.2.1 9 3)), some (.int r22), none] [] (nh_si τ21 0 17 (if r22 = 0 then τ21.1 0 18 else τ21.1 0 17)) Q))))))))))) : nh_E kX9_takePart 0 [some (.ref 0), some (.int x1), none, none, none] [] σ Q := by
  refine nE_aload_n dX9_takePart_0 rfl rfl ?_
  refine nE_getC fl_X9_35 sR_0 rfl dX9_takePart_1 ?_
  refine nE_iconst (v := 3) dX9_takePart_4 (by decide) ?_
  refine nG_iald (j := 3) sR_9 (by decide) dX9_takePart_5 ⟨(nh_vi (by decide)), ?_⟩
  refine nE_istore_n dX9_takePart_6 rfl rfl (by decide) ?_
  refine nE_aload_n dX9_takePart_7 rfl rfl ?_
  refine nE_iload_n dX9_takePart_8 rfl rfl ?_
  refine nE_bipush (v := 12) dX9_takePart_9 (by decide) ?_
  have j28 : nh_E kX9_takePart 19 [some (.ref 0), some (.int x1), some (.int (σ.2.1 9 3)), none, none] [.int (if ¬ (12 ≤ σ.2.1 9 3) then 1 else 0), .ref 0] σ Q := by
    refine nE_iconst (v := 3) dX9_takePart_19 (by decide) ?_
    refine nE_iload_n dX9_takePart_20 rfl rfl ?_
    refine nE_callV (As := [.int (if ¬ (12 ≤ σ.2.1 9 3) then 1 else 0), .int 3, .int x1]) yf_X9_want ⟨by decide, by decide⟩ rfl rfl sR_0 rfl vl_X9_130 dX9_takePart_21 rfl rfl (Nat.le_of_ble_eq_true rfl) (Nat.le_of_ble_eq_true rfl) (nE_mono (fun z3 τ1 h => ?_) h)
    obtain ⟨r2, rfl, h⟩ := h
    refine nE_if_eq (tgt := 255) dX9_takePart_24 (by decide) ⟨fun c4 => ?_, fun c4 => ?_⟩
    · have h := h.1 c4
      exact nE_vret dX9_takePart_255 rfl h
    · have h := h.2 c4
      refine nE_aload_n dX9_takePart_27 rfl rfl ?_
      refine nE_getC fl_X9_23 sR_0 rfl dX9_takePart_28 ?_
      refine nE_bipush (v := 12) dX9_takePart_31 (by decide) ?_
      refine nE_iload_n dX9_takePart_33 rfl rfl ?_
      refine nE_iadd dX9_takePart_34 ?_
      refine nE_aload_n dX9_takePart_35 rfl rfl ?_
      refine nE_iconst (v := 0) dX9_takePart_36 (by decide) ?_
      refine nE_aload_n dX9_takePart_37 rfl rfl ?_
      refine nE_getC fl_X9_35 sR_0 rfl dX9_takePart_38 ?_
      refine nE_iconst (v := 2) dX9_takePart_41 (by decide) ?_
      refine nG_iald (j := 2) sR_9 (by decide) dX9_takePart_42 ⟨(nh_vi (by decide)), ?_⟩
      refine nE_iconst (v := 1) dX9_takePart_43 (by decide) ?_
      refine nE_isub dX9_takePart_44 ?_
      refine nE_callV (As := [.int 0, .int ((τ1.2.1 9 2) - 1)]) yf_X9_takeNumber ⟨by decide, by decide⟩ rfl rfl sR_0 rfl vl_X9_135 dX9_takePart_45 rfl rfl (Nat.le_of_ble_eq_true rfl) (Nat.le_of_ble_eq_true rfl) (nE_mono (fun z7 τ5 h => ?_) h)
      obtain ⟨r6, rfl, h⟩ := h
      obtain ⟨g8, h⟩ := h
      refine nG_iast (j := (12 + (σ.2.1 9 3)).toNatClampNeg) sR_5 rfl dX9_takePart_48 ⟨g8, ?_⟩
      refine nE_aload_n dX9_takePart_49 rfl rfl ?_
      refine nE_getC fl_X9_26 sR_0 rfl dX9_takePart_50 ?_
      refine nE_bipush (v := 12) dX9_takePart_53 (by decide) ?_
      refine nE_iload_n dX9_takePart_55 rfl rfl ?_
      refine nE_iadd dX9_takePart_56 ?_
      refine nE_aload_n dX9_takePart_57 rfl rfl ?_
      refine nE_iconst (v := 0) dX9_takePart_58 (by decide) ?_
      refine nE_bipush (v := 60) dX9_takePart_59 (by decide) ?_
      refine nE_callV (As := [.int 0, .int 60]) yf_X9_takeNumber ⟨by decide, by decide⟩ rfl rfl sR_0 rfl vl_X9_135 dX9_takePart_61 rfl rfl (Nat.le_of_ble_eq_true rfl) (Nat.le_of_ble_eq_true rfl) (nE_mono (fun z11 τ9 h => ?_) h)
      obtain ⟨r10, rfl, h⟩ := h
      obtain ⟨g12, h⟩ := h
      refine nG_iast (j := (12 + (σ.2.1 9 3)).toNatClampNeg) sR_6 rfl dX9_takePart_64 ⟨g12, ?_⟩
      refine nE_aload_n dX9_takePart_65 rfl rfl ?_
      refine nE_getC fl_X9_29 sR_0 rfl dX9_takePart_66 ?_
      refine nE_bipush (v := 12) dX9_takePart_69 (by decide) ?_
      refine nE_iload_n dX9_takePart_71 rfl rfl ?_
      refine nE_iadd dX9_takePart_72 ?_
      refine nE_aload_n dX9_takePart_73 rfl rfl ?_
      refine nE_iconst (v := 0) dX9_takePart_74 (by decide) ?_
      refine nE_bipush (v := 99) dX9_takePart_75 (by decide) ?_
      refine nE_callV (As := [.int 0, .int 99]) yf_X9_takeNumber ⟨by decide, by decide⟩ rfl rfl sR_0 rfl vl_X9_135 dX9_takePart_77 rfl rfl (Nat.le_of_ble_eq_true rfl) (Nat.le_of_ble_eq_true rfl) (nE_mono (fun z15 τ13 h => ?_) h)
      obtain ⟨r14, rfl, h⟩ := h
      obtain ⟨g16, h⟩ := h
      refine nG_iast (j := (12 + (σ.2.1 9 3)).toNatClampNeg) sR_7 rfl dX9_takePart_80 ⟨g16, ?_⟩
      refine nE_aload_n dX9_takePart_81 rfl rfl ?_
      refine nE_getC fl_X9_32 sR_0 rfl dX9_takePart_82 ?_
      refine nE_bipush (v := 12) dX9_takePart_85 (by decide) ?_
      refine nE_iload_n dX9_takePart_87 rfl rfl ?_
      refine nE_iadd dX9_takePart_88 ?_
      refine nE_iconst (v := 0) dX9_takePart_89 (by decide) ?_
      refine nG_iast (j := (12 + (σ.2.1 9 3)).toNatClampNeg) sR_8 rfl dX9_takePart_90 ⟨g16, ?_⟩
      refine nE_aload_n dX9_takePart_91 rfl rfl ?_
      refine nE_getI fl_X9_109 sR_0 rfl dX9_takePart_92 ?_
      refine nE_if_ne (tgt := 246) dX9_takePart_95 (by decide) ⟨fun c17 => ?_, fun c17 => ?_⟩
      · have h := h.1 c17
        refine nE_aload_n dX9_takePart_246 rfl rfl ?_
        refine nE_getC fl_X9_35 sR_0 rfl dX9_takePart_247 ?_
        refine nE_iconst (v := 3) dX9_takePart_250 (by decide) ?_
        refine nE_iload_n dX9_takePart_251 rfl rfl ?_
        refine nE_iconst (v := 1) dX9_takePart_252 (by decide) ?_
        refine nE_iadd dX9_takePart_253 ?_
        refine nG_iast (j := 3) sR_9 (by decide) dX9_takePart_254 ⟨(nh_vi (by decide)), ?_⟩
        exact nE_vret dX9_takePart_255 rfl h
      · have h := h.2 c17
        refine nE_aload_n dX9_takePart_98 rfl rfl ?_
        refine nE_callV (As := []) yf_X9_takeWord ⟨by decide, by decide⟩ rfl rfl sR_0 rfl vl_X9_139 dX9_takePart_99 rfl rfl (Nat.le_of_ble_eq_true rfl) (Nat.le_of_ble_eq_true rfl) (nE_mono (fun z20 τ18 h => ?_) h)
        obtain ⟨rfl, h⟩ := h
        refine nE_aload_n dX9_takePart_102 rfl rfl ?_
        refine nE_iconst (v := 2) dX9_takePart_103 (by decide) ?_
        refine nE_bipush (v := 111) dX9_takePart_104 (by decide) ?_
        refine nE_bipush (v := 110) dX9_takePart_106 (by decide) ?_
        refine nE_iconst (v := 0) dX9_takePart_108 (by decide) ?_
        refine nE_iconst (v := 0) dX9_takePart_109 (by decide) ?_
        refine nE_iconst (v := 0) dX9_takePart_110 (by decide) ?_
        refine nE_callV (As := [.int 2, .int 111, .int 110, .int 0, .int 0, .int 0]) yf_X9_isWord ⟨by decide, by decide⟩ rfl rfl sR_0 rfl vl_X9_142 dX9_takePart_111 rfl rfl (Nat.le_of_ble_eq_true rfl) (Nat.le_of_ble_eq_true rfl) (nE_mono (fun z23 τ21 h => ?_) h)
        obtain ⟨r22, rfl, h⟩ := h
        refine nE_istore_n dX9_takePart_114 rfl rfl (by decide) ?_
        refine nE_aload_n dX9_takePart_115 rfl rfl ?_
        refine nE_iload_n dX9_takePart_116 rfl rfl ?_
        have j24 : nh_E kX9_takePart 131 [some (.ref 0), some (.int x1), some (.int (σ.2.1 9 3)), some (.int r22), none] [.int (if r22 = 0 then τ21.1 0 18 else τ21.1 0 17), .ref 0] τ21 Q := by
          refine nE_putI fl_X9_106 sR_0 rfl ⟨rfl, rfl⟩ dX9_takePart_131 ?_
          refine nE_weak 1 ?_
          exact h
        refine nE_if_eq (tgt := 127) dX9_takePart_117 (by decide) ⟨fun c25 => ?_, fun c25 => ?_⟩
        · skip
          have f26 : (r22 = 0) = True := eq_true c25
          refine nE_aload_n dX9_takePart_127 rfl rfl ?_
          refine nE_getI fl_X9_116 sR_0 rfl dX9_takePart_128 ?_
          exact nh_topi (show ((if r22 = 0 then τ21.1 0 18 else τ21.1 0 17) : Int32) = τ21.1 0 18 from by simp only [if_true, if_false, not_true_eq_false, not_false_eq_true, true_and, and_true, false_and, and_false, true_or, or_true, false_or, or_false, if_pos, if_neg, ite_true, ite_false, f26]) j24
        · skip
          have f27 : (r22 = 0) = False := eq_false c25
          refine nE_aload_n dX9_takePart_120 rfl rfl ?_
          refine nE_getI fl_X9_106 sR_0 rfl dX9_takePart_121 ?_
          refine nE_goto (tgt := 131) dX9_takePart_124 (by decide) ?_
          exact nh_topi (show ((if r22 = 0 then τ21.1 0 18 else τ21.1 0 17) : Int32) = τ21.1 0 17 from by simp only [if_true, if_false, not_true_eq_false, not_false_eq_true, true_and, and_true, false_and, and_false, true_or, or_true, false_or, or_false, if_pos, if_neg, ite_true, ite_false, f27]) j24
  refine nE_icmp_ge (tgt := 18) dX9_takePart_11 (by decide) ⟨fun c29 => ?_, fun c29 => ?_⟩
  · skip
    have f30 : (12 ≤ σ.2.1 9 3) = True := eq_true c29
    refine nE_iconst (v := 0) dX9_takePart_18 (by decide) ?_
    exact nh_topi (show ((if ¬ (12 ≤ σ.2.1 9 3) then 1 else 0) : Int32) = 0 from by simp only [if_true, if_false, not_true_eq_false, not_false_eq_true, true_and, and_true, false_and, and_false, true_or, or_true, false_or, or_false, if_pos, if_neg, ite_true, ite_false, f30]) j28
  · skip
    have f31 : (12 ≤ σ.2.1 9 3) = False := eq_false c29
    refine nE_iconst (v := 1) dX9_takePart_14 (by decide) ?_
    refine nE_goto (tgt := 19) dX9_takePart_15 (by decide) ?_
    exact nh_topi (show ((if ¬ (12 ≤ σ.2.1 9 3) then 1 else 0) : Int32) = 1 from by simp only [if_true, if_false, not_true_eq_false, not_false_eq_true, true_and, and_true, false_and, and_false, true_or, or_true, false_or, or_false, if_pos, if_neg, ite_true, ite_false, f31]) j28
set_option maxRecDepth 20000 in
theorem sg_X9_takePart_134 (x2 : Int32) (x3 : Int32) {σ : nh_S} {Q : Option Value → nh_S → Prop} (h : (x3 = 0 → (Q none (nh_wa σ 9 3 (x2 + 1)))) ∧ (¬ (x3 = 0) → (nh_E kX9_takeNumber 0 [some (.ref 0), some (.int 0), some (.int (x2 - 1)), none, none, none] [] σ (nh_qi fun r3 τ2 => (¬ (τ2.1 0 20 = 0) → (nh_E kX9_takePart 134 [some (.ref 0), none, some (.int x2), some (.int 0), none] [] τ2 Q)) ∧ (τ2.1 0 20 = 0 → ((vp_in (12 + x2) 24) ∧ nh_E kX9_want 0 [some (.ref 0), some (.int (if ¬ (nh_hs (τ2.2.1 8 ((12 + x2).toNatClampNeg)) r3) then 1 else 0)), some (.int 4), some (.int (τ2.1 0 18))] [] τ2 (nh_qi fun r9 τ8 => (¬ (¬ (r9 = 0)) → (nh_E kX9_takePart 134 [some (.ref 0), none, some (.int x2), some (.int (if ¬ (r9 = 0) then 1 else 0)), none] [] τ8 Q)) ∧ (¬ (r9 = 0) → ((vp_in (12 + x2) 24) ∧ nh_E kX9_here 0 [some (.ref 0)] [] (nh_wa τ8 8 ((12 + x2).toNatClampNeg) ((τ8.2.1 8 ((12 + x2).toNatClampNeg)) ||| (1 <<< (r3 &&& 31)))) (nh_qi fun r14 τ13 => nh_E kX9_takePart 134 [some (.ref 0), none, some (.int x2), some (.int (if r14 = 44 then 1 else 0)), none] [] (nh_si τ13 0 17 ((τ13.1 0 17) + (if r14 = 44 then 1 else 0))) Q)))))))))) : nh_E kX9_takePart 134 [some (.ref 0), none, some (.int x2), some (.int x3), none] [] σ Q := by
  refine nE_iload_n dX9_takePart_134 rfl rfl ?_
  refine nE_if_eq (tgt := 246) dX9_takePart_135 (by decide) ⟨fun c1 => ?_, fun c1 => ?_⟩
  · have h := h.1 c1
    refine nE_aload_n dX9_takePart_246 rfl rfl ?_
    refine nE_getC fl_X9_35 sR_0 rfl dX9_takePart_247 ?_
    refine nE_iconst (v := 3) dX9_takePart_250 (by decide) ?_
    refine nE_iload_n dX9_takePart_251 rfl rfl ?_
    refine nE_iconst (v := 1) dX9_takePart_252 (by decide) ?_
    refine nE_iadd dX9_takePart_253 ?_
    refine nG_iast (j := 3) sR_9 (by decide) dX9_takePart_254 ⟨(nh_vi (by decide)), ?_⟩
    exact nE_vret dX9_takePart_255 rfl h
  · have h := h.2 c1
    refine nE_aload_n dX9_takePart_138 rfl rfl ?_
    refine nE_iconst (v := 0) dX9_takePart_139 (by decide) ?_
    refine nE_iload_n dX9_takePart_140 rfl rfl ?_
    refine nE_iconst (v := 1) dX9_takePart_141 (by decide) ?_
    refine nE_isub dX9_takePart_142 ?_
    refine nE_callV (As := [.int 0, .int (x2 - 1)]) yf_X9_takeNumber ⟨by decide, by decide⟩ rfl rfl sR_0 rfl vl_X9_135 dX9_takePart_143 rfl rfl (Nat.le_of_ble_eq_true rfl) (Nat.le_of_ble_eq_true rfl) (nE_mono (fun z4 τ2 h => ?_) h)
    obtain ⟨r3, rfl, h⟩ := h
    refine nE_istore dX9_takePart_146 rfl (by decide) ?_
    refine nE_aload_n dX9_takePart_148 rfl rfl ?_
    refine nE_getI fl_X9_109 sR_0 rfl dX9_takePart_149 ?_
    refine nE_if_ne (tgt := 193) dX9_takePart_152 (by decide) ⟨fun c5 => ?_, fun c5 => ?_⟩
    · have h := h.1 c5
      refine nE_iconst (v := 0) dX9_takePart_193 (by decide) ?_
      refine nE_istore_n dX9_takePart_194 rfl rfl (by decide) ?_
      refine nE_iload_n dX9_takePart_195 rfl rfl ?_
      refine nE_if_eq (tgt := 243) dX9_takePart_196 (by decide) ⟨fun c6 => ?_, fun c6 => absurd c6 (by decide)⟩
      refine nE_goto (tgt := 134) dX9_takePart_243 (by decide) ?_
      refine nE_weak 4 ?_
      exact h
    · have h := h.2 c5
      refine nE_aload_n dX9_takePart_155 rfl rfl ?_
      refine nE_aload_n dX9_takePart_156 rfl rfl ?_
      refine nE_getC fl_X9_32 sR_0 rfl dX9_takePart_157 ?_
      refine nE_bipush (v := 12) dX9_takePart_160 (by decide) ?_
      refine nE_iload_n dX9_takePart_162 rfl rfl ?_
      refine nE_iadd dX9_takePart_163 ?_
      obtain ⟨g7, h⟩ := h
      refine nG_iald (j := (12 + x2).toNatClampNeg) sR_8 rfl dX9_takePart_164 ⟨g7, ?_⟩
      refine nE_iload dX9_takePart_165 rfl ?_
      refine nE_callS (As := [.int (τ2.2.1 8 ((12 + x2).toNatClampNeg)), .int r3]) yf_X9_has ⟨by decide, by decide⟩ rfl sl_X9_146 dX9_takePart_167 rfl rfl (Nat.le_of_ble_eq_true rfl) (Nat.le_of_ble_eq_true rfl) (p_X9_has _ _ ?_)
      have j24 : nh_E kX9_takePart 178 [some (.ref 0), none, some (.int x2), some (.int x3), some (.int r3)] [.int (if ¬ (nh_hs (τ2.2.1 8 ((12 + x2).toNatClampNeg)) r3) then 1 else 0), .ref 0] τ2 Q := by
        refine nE_iconst (v := 4) dX9_takePart_178 (by decide) ?_
        refine nE_aload_n dX9_takePart_179 rfl rfl ?_
        refine nE_getI fl_X9_116 sR_0 rfl dX9_takePart_180 ?_
        refine nE_callV (As := [.int (if ¬ (nh_hs (τ2.2.1 8 ((12 + x2).toNatClampNeg)) r3) then 1 else 0), .int 4, .int (τ2.1 0 18)]) yf_X9_want ⟨by decide, by decide⟩ rfl rfl sR_0 rfl vl_X9_130 dX9_takePart_183 rfl rfl (Nat.le_of_ble_eq_true rfl) (Nat.le_of_ble_eq_true rfl) (nE_mono (fun z10 τ8 h => ?_) h)
        obtain ⟨r9, rfl, h⟩ := h
        have j20 : nh_E kX9_takePart 194 [some (.ref 0), none, some (.int x2), some (.int x3), some (.int r3)] [.int (if ¬ (r9 = 0) then 1 else 0)] τ8 Q := by
          refine nE_istore_n dX9_takePart_194 rfl rfl (by decide) ?_
          refine nE_iload_n dX9_takePart_195 rfl rfl ?_
          refine nE_ifb_eq (tgt := 243) dX9_takePart_196 (by decide) ⟨fun c11 => ?_, fun c11 => ?_⟩
          · have h := h.1 c11
            refine nE_goto (tgt := 134) dX9_takePart_243 (by decide) ?_
            refine nE_weak 4 ?_
            exact h
          · have h := h.2 c11
            refine nE_aload_n dX9_takePart_199 rfl rfl ?_
            refine nE_getC fl_X9_32 sR_0 rfl dX9_takePart_200 ?_
            refine nE_bipush (v := 12) dX9_takePart_203 (by decide) ?_
            refine nE_iload_n dX9_takePart_205 rfl rfl ?_
            refine nE_iadd dX9_takePart_206 ?_
            refine nE_dup2 dX9_takePart_207 rfl rfl ?_
            obtain ⟨g12, h⟩ := h
            refine nG_iald (j := (12 + x2).toNatClampNeg) sR_8 rfl dX9_takePart_208 ⟨g12, ?_⟩
            refine nE_iconst (v := 1) dX9_takePart_209 (by decide) ?_
            refine nE_iload dX9_takePart_210 rfl ?_
            refine nE_ishl dX9_takePart_212 ?_
            refine nE_ior dX9_takePart_213 ?_
            refine nG_iast (j := (12 + x2).toNatClampNeg) sR_8 rfl dX9_takePart_214 ⟨g12, ?_⟩
            refine nE_aload_n dX9_takePart_215 rfl rfl ?_
            refine nE_callV (As := []) yf_X9_here ⟨by decide, by decide⟩ rfl rfl sR_0 rfl vl_X9_112 dX9_takePart_216 rfl rfl (Nat.le_of_ble_eq_true rfl) (Nat.le_of_ble_eq_true rfl) (nE_mono (fun z15 τ13 h => ?_) h)
            obtain ⟨r14, rfl, h⟩ := h
            refine nE_bipush (v := 44) dX9_takePart_219 (by decide) ?_
            have j16 : nh_E kX9_takePart 229 [some (.ref 0), none, some (.int x2), some (.int (if ¬ (r9 = 0) then 1 else 0)), some (.int r3)] [.int (if r14 = 44 then 1 else 0)] τ13 Q := by
              refine nE_istore_n dX9_takePart_229 rfl rfl (by decide) ?_
              refine nE_aload_n dX9_takePart_230 rfl rfl ?_
              refine nE_dup dX9_takePart_231 rfl ?_
              refine nE_getI fl_X9_106 sR_0 rfl dX9_takePart_232 ?_
              refine nE_iload_n dX9_takePart_235 rfl rfl ?_
              refine nE_callS (As := [.int (if r14 = 44 then 1 else 0)]) yf_X9_one ⟨by decide, by decide⟩ rfl sl_X9_150 dX9_takePart_236 rfl rfl (Nat.le_of_ble_eq_true rfl) (Nat.le_of_ble_eq_true rfl) (p_X9_one _ ?_)
              refine nE_iadd dX9_takePart_239 ?_
              refine nE_putI fl_X9_106 sR_0 rfl ⟨rfl, rfl⟩ dX9_takePart_240 ?_
              refine nE_goto (tgt := 134) dX9_takePart_243 (by decide) ?_
              refine nE_weak 4 ?_
              exact h
            refine nE_icmp_ne (tgt := 228) dX9_takePart_221 (by decide) ⟨fun c17 => ?_, fun c17 => ?_⟩
            · skip
              have f18 : (r14 = 44) = False := eq_false c17
              refine nE_iconst (v := 0) dX9_takePart_228 (by decide) ?_
              exact nh_topi (show ((if r14 = 44 then 1 else 0) : Int32) = 0 from by simp only [if_true, if_false, not_true_eq_false, not_false_eq_true, true_and, and_true, false_and, and_false, true_or, or_true, false_or, or_false, if_pos, if_neg, ite_true, ite_false, f18]) j16
            · skip
              have f19 : (r14 = 44) = True := eq_true c17
              refine nE_iconst (v := 1) dX9_takePart_224 (by decide) ?_
              refine nE_goto (tgt := 229) dX9_takePart_225 (by decide) ?_
              exact nh_topi (show ((if r14 = 44 then 1 else 0) : Int32) = 1 from by simp only [if_true, if_false, not_true_eq_false, not_false_eq_true, true_and, and_true, false_and, and_false, true_or, or_true, false_or, or_false, if_pos, if_neg, ite_true, ite_false, f19]) j16
        refine nE_if_eq (tgt := 193) dX9_takePart_186 (by decide) ⟨fun c21 => ?_, fun c21 => ?_⟩
        · skip
          have f22 : (r9 = 0) = True := eq_true c21
          refine nE_iconst (v := 0) dX9_takePart_193 (by decide) ?_
          exact nh_topi (show ((if ¬ (r9 = 0) then 1 else 0) : Int32) = 0 from by simp only [if_true, if_false, not_true_eq_false, not_false_eq_true, true_and, and_true, false_and, and_false, true_or, or_true, false_or, or_false, if_pos, if_neg, ite_true, ite_false, f22]) j20
        · skip
          have f23 : (r9 = 0) = False := eq_false c21
          refine nE_iconst (v := 1) dX9_takePart_189 (by decide) ?_
          refine nE_goto (tgt := 194) dX9_takePart_190 (by decide) ?_
          exact nh_topi (show ((if ¬ (r9 = 0) then 1 else 0) : Int32) = 1 from by simp only [if_true, if_false, not_true_eq_false, not_false_eq_true, true_and, and_true, false_and, and_false, true_or, or_true, false_or, or_false, if_pos, if_neg, ite_true, ite_false, f23]) j20
      refine nE_ifb_ne (tgt := 177) dX9_takePart_170 (by decide) ⟨fun c25 => ?_, fun c25 => ?_⟩
      · skip
        have f26 : (nh_hs (τ2.2.1 8 ((12 + x2).toNatClampNeg)) r3) = True := eq_true c25
        refine nE_iconst (v := 0) dX9_takePart_177 (by decide) ?_
        exact nh_topi (show ((if ¬ (nh_hs (τ2.2.1 8 ((12 + x2).toNatClampNeg)) r3) then 1 else 0) : Int32) = 0 from by simp only [if_true, if_false, not_true_eq_false, not_false_eq_true, true_and, and_true, false_and, and_false, true_or, or_true, false_or, or_false, if_pos, if_neg, ite_true, ite_false, f26]) j24
      · skip
        have f27 : (nh_hs (τ2.2.1 8 ((12 + x2).toNatClampNeg)) r3) = False := eq_false c25
        refine nE_iconst (v := 1) dX9_takePart_173 (by decide) ?_
        refine nE_goto (tgt := 178) dX9_takePart_174 (by decide) ?_
        exact nh_topi (show ((if ¬ (nh_hs (τ2.2.1 8 ((12 + x2).toNatClampNeg)) r3) then 1 else 0) : Int32) = 1 from by simp only [if_true, if_false, not_true_eq_false, not_false_eq_true, true_and, and_true, false_and, and_false, true_or, or_true, false_or, or_false, if_pos, if_neg, ite_true, ite_false, f27]) j24
set_option maxRecDepth 20000 in
theorem sg_X9_takeClause_0  {σ : nh_S} {Q : Option Value → nh_S → Prop} (h : nh_E kX9_takeWord 0 [some (.ref 0), none] [] σ (nh_qv fun τ1 => nh_E kX9_isWord 0 [some (.ref 0), some (.int 5), some (.int 104), some (.int 111), some (.int 117), some (.int 115), some (.int 101), none, none] [] τ1 (nh_qi fun r5 τ4 => (r5 = 0 → (nh_E kX9_isWord 0 [some (.ref 0), some (.int 3), some (.int 119), some (.int 97), some (.int 121), some (.int 0), some (.int 0), none, none] [] τ4 (nh_qi fun r9 τ8 => (r9 = 0 → (nh_E kX9_isWord 0 [some (.ref 0), some (.int 4), some (.int 112), some (.int 97), some (.int 114), some (.int 116), some (.int 0), none, none] [] τ8 (nh_qi fun r13 τ12 => nh_E kX9_want 0 [some (.ref 0), some (.int r13), some (.int 1), some (.int (τ1.1 0 18))] [] τ12 (nh_qi fun r16 τ15 => (r16 = 0 → (nh_E kX9_takeEnd 0 [some (.ref 0)] [] τ15 (nh_qv fun τ19 => Q none τ19))) ∧ (¬ (r16 = 0) → (nh_E kX9_takePart 0 [some (.ref 0), some (.int (τ1.1 0 18)), none, none, none] [] τ15 (nh_qv fun τ22 => nh_E kX9_takeEnd 0 [some (.ref 0)] [] τ22 (nh_qv fun τ25 => Q none τ25)))))))) ∧ (¬ (r9 = 0) → (nh_E kX9_takeWay 0 [some (.ref 0), none, none, none] [] τ8 (nh_qv fun τ28 => nh_E kX9_takeEnd 0 [some (.ref 0)] [] τ28 (nh_qv fun τ31 => Q none τ31))))))) ∧ (¬ (r5 = 0) → (nh_E kX9_takeHouse 0 [some (.ref 0), some (.int (τ1.1 0 18)), none, none] [] τ4 (nh_qv fun τ34 => nh_E kX9_takeEnd 0 [some (.ref 0)] [] τ34 (nh_qv fun τ37 => Q none τ37))))))) : nh_E kX9_takeClause 0 [some (.ref 0), none] [] σ Q := by
  refine nE_aload_n dX9_takeClause_0 rfl rfl ?_
  refine nE_callV (As := []) yf_X9_takeWord ⟨by decide, by decide⟩ rfl rfl sR_0 rfl vl_X9_139 dX9_takeClause_1 rfl rfl (Nat.le_of_ble_eq_true rfl) (Nat.le_of_ble_eq_true rfl) (nE_mono (fun z3 τ1 h => ?_) h)
  obtain ⟨rfl, h⟩ := h
  refine nE_aload_n dX9_takeClause_4 rfl rfl ?_
  refine nE_getI fl_X9_116 sR_0 rfl dX9_takeClause_5 ?_
  refine nE_istore_n dX9_takeClause_8 rfl rfl (by decide) ?_
  refine nE_aload_n dX9_takeClause_9 rfl rfl ?_
  refine nE_iconst (v := 5) dX9_takeClause_10 (by decide) ?_
  refine nE_bipush (v := 104) dX9_takeClause_11 (by decide) ?_
  refine nE_bipush (v := 111) dX9_takeClause_13 (by decide) ?_
  refine nE_bipush (v := 117) dX9_takeClause_15 (by decide) ?_
  refine nE_bipush (v := 115) dX9_takeClause_17 (by decide) ?_
  refine nE_bipush (v := 101) dX9_takeClause_19 (by decide) ?_
  refine nE_callV (As := [.int 5, .int 104, .int 111, .int 117, .int 115, .int 101]) yf_X9_isWord ⟨by decide, by decide⟩ rfl rfl sR_0 rfl vl_X9_142 dX9_takeClause_21 rfl rfl (Nat.le_of_ble_eq_true rfl) (Nat.le_of_ble_eq_true rfl) (nE_mono (fun z6 τ4 h => ?_) h)
  obtain ⟨r5, rfl, h⟩ := h
  refine nE_if_eq (tgt := 35) dX9_takeClause_24 (by decide) ⟨fun c7 => ?_, fun c7 => ?_⟩
  · have h := h.1 c7
    refine nE_aload_n dX9_takeClause_35 rfl rfl ?_
    refine nE_iconst (v := 3) dX9_takeClause_36 (by decide) ?_
    refine nE_bipush (v := 119) dX9_takeClause_37 (by decide) ?_
    refine nE_bipush (v := 97) dX9_takeClause_39 (by decide) ?_
    refine nE_bipush (v := 121) dX9_takeClause_41 (by decide) ?_
    refine nE_iconst (v := 0) dX9_takeClause_43 (by decide) ?_
    refine nE_iconst (v := 0) dX9_takeClause_44 (by decide) ?_
    refine nE_callV (As := [.int 3, .int 119, .int 97, .int 121, .int 0, .int 0]) yf_X9_isWord ⟨by decide, by decide⟩ rfl rfl sR_0 rfl vl_X9_142 dX9_takeClause_45 rfl rfl (Nat.le_of_ble_eq_true rfl) (Nat.le_of_ble_eq_true rfl) (nE_mono (fun z10 τ8 h => ?_) h)
    obtain ⟨r9, rfl, h⟩ := h
    refine nE_if_eq (tgt := 58) dX9_takeClause_48 (by decide) ⟨fun c11 => ?_, fun c11 => ?_⟩
    · have h := h.1 c11
      refine nE_aload_n dX9_takeClause_58 rfl rfl ?_
      refine nE_aload_n dX9_takeClause_59 rfl rfl ?_
      refine nE_iconst (v := 4) dX9_takeClause_60 (by decide) ?_
      refine nE_bipush (v := 112) dX9_takeClause_61 (by decide) ?_
      refine nE_bipush (v := 97) dX9_takeClause_63 (by decide) ?_
      refine nE_bipush (v := 114) dX9_takeClause_65 (by decide) ?_
      refine nE_bipush (v := 116) dX9_takeClause_67 (by decide) ?_
      refine nE_iconst (v := 0) dX9_takeClause_69 (by decide) ?_
      refine nE_callV (As := [.int 4, .int 112, .int 97, .int 114, .int 116, .int 0]) yf_X9_isWord ⟨by decide, by decide⟩ rfl rfl sR_0 rfl vl_X9_142 dX9_takeClause_70 rfl rfl (Nat.le_of_ble_eq_true rfl) (Nat.le_of_ble_eq_true rfl) (nE_mono (fun z14 τ12 h => ?_) h)
      obtain ⟨r13, rfl, h⟩ := h
      refine nE_iconst (v := 1) dX9_takeClause_73 (by decide) ?_
      refine nE_iload_n dX9_takeClause_74 rfl rfl ?_
      refine nE_callV (As := [.int r13, .int 1, .int (τ1.1 0 18)]) yf_X9_want ⟨by decide, by decide⟩ rfl rfl sR_0 rfl vl_X9_130 dX9_takeClause_75 rfl rfl (Nat.le_of_ble_eq_true rfl) (Nat.le_of_ble_eq_true rfl) (nE_mono (fun z17 τ15 h => ?_) h)
      obtain ⟨r16, rfl, h⟩ := h
      refine nE_if_eq (tgt := 86) dX9_takeClause_78 (by decide) ⟨fun c18 => ?_, fun c18 => ?_⟩
      · have h := h.1 c18
        refine nE_aload_n dX9_takeClause_86 rfl rfl ?_
        refine nE_callV (As := []) yf_X9_takeEnd ⟨by decide, by decide⟩ rfl rfl sR_0 rfl vl_X9_164 dX9_takeClause_87 rfl rfl (Nat.le_of_ble_eq_true rfl) (Nat.le_of_ble_eq_true rfl) (nE_mono (fun z21 τ19 h => ?_) h)
        obtain ⟨rfl, h⟩ := h
        exact nE_vret dX9_takeClause_90 rfl h
      · have h := h.2 c18
        refine nE_aload_n dX9_takeClause_81 rfl rfl ?_
        refine nE_iload_n dX9_takeClause_82 rfl rfl ?_
        refine nE_callV (As := [.int (τ1.1 0 18)]) yf_X9_takePart ⟨by decide, by decide⟩ rfl rfl sR_0 rfl vl_X9_161 dX9_takeClause_83 rfl rfl (Nat.le_of_ble_eq_true rfl) (Nat.le_of_ble_eq_true rfl) (nE_mono (fun z24 τ22 h => ?_) h)
        obtain ⟨rfl, h⟩ := h
        refine nE_aload_n dX9_takeClause_86 rfl rfl ?_
        refine nE_callV (As := []) yf_X9_takeEnd ⟨by decide, by decide⟩ rfl rfl sR_0 rfl vl_X9_164 dX9_takeClause_87 rfl rfl (Nat.le_of_ble_eq_true rfl) (Nat.le_of_ble_eq_true rfl) (nE_mono (fun z27 τ25 h => ?_) h)
        obtain ⟨rfl, h⟩ := h
        exact nE_vret dX9_takeClause_90 rfl h
    · have h := h.2 c11
      refine nE_aload_n dX9_takeClause_51 rfl rfl ?_
      refine nE_callV (As := []) yf_X9_takeWay ⟨by decide, by decide⟩ rfl rfl sR_0 rfl vl_X9_158 dX9_takeClause_52 rfl rfl (Nat.le_of_ble_eq_true rfl) (Nat.le_of_ble_eq_true rfl) (nE_mono (fun z30 τ28 h => ?_) h)
      obtain ⟨rfl, h⟩ := h
      refine nE_goto (tgt := 86) dX9_takeClause_55 (by decide) ?_
      refine nE_aload_n dX9_takeClause_86 rfl rfl ?_
      refine nE_callV (As := []) yf_X9_takeEnd ⟨by decide, by decide⟩ rfl rfl sR_0 rfl vl_X9_164 dX9_takeClause_87 rfl rfl (Nat.le_of_ble_eq_true rfl) (Nat.le_of_ble_eq_true rfl) (nE_mono (fun z33 τ31 h => ?_) h)
      obtain ⟨rfl, h⟩ := h
      exact nE_vret dX9_takeClause_90 rfl h
  · have h := h.2 c7
    refine nE_aload_n dX9_takeClause_27 rfl rfl ?_
    refine nE_iload_n dX9_takeClause_28 rfl rfl ?_
    refine nE_callV (As := [.int (τ1.1 0 18)]) yf_X9_takeHouse ⟨by decide, by decide⟩ rfl rfl sR_0 rfl vl_X9_154 dX9_takeClause_29 rfl rfl (Nat.le_of_ble_eq_true rfl) (Nat.le_of_ble_eq_true rfl) (nE_mono (fun z36 τ34 h => ?_) h)
    obtain ⟨rfl, h⟩ := h
    refine nE_goto (tgt := 86) dX9_takeClause_32 (by decide) ?_
    refine nE_aload_n dX9_takeClause_86 rfl rfl ?_
    refine nE_callV (As := []) yf_X9_takeEnd ⟨by decide, by decide⟩ rfl rfl sR_0 rfl vl_X9_164 dX9_takeClause_87 rfl rfl (Nat.le_of_ble_eq_true rfl) (Nat.le_of_ble_eq_true rfl) (nE_mono (fun z39 τ37 h => ?_) h)
    obtain ⟨rfl, h⟩ := h
    exact nE_vret dX9_takeClause_90 rfl h
set_option maxRecDepth 20000 in
theorem sg_X9_parish_0  {σ : nh_S} {Q : Option Value → nh_S → Prop} (h : nh_E kX9_beginReading 0 [some (.ref 0)] [] σ (nh_qv fun τ1 => nh_E kX9_parish 21 [some (.ref 0), some (.int 81)] [] (nh_wa (nh_wa τ1 9 2 0) 9 3 0) Q)) : nh_E kX9_parish 0 [some (.ref 0), none] [] σ Q := by
  refine nE_aload_n dX9_parish_0 rfl rfl ?_
  refine nE_callV (As := []) yf_X9_beginReading ⟨by decide, by decide⟩ rfl rfl sR_0 rfl vl_X9_167 dX9_parish_1 rfl rfl (Nat.le_of_ble_eq_true rfl) (Nat.le_of_ble_eq_true rfl) (nE_mono (fun z3 τ1 h => ?_) h)
  obtain ⟨rfl, h⟩ := h
  refine nE_aload_n dX9_parish_4 rfl rfl ?_
  refine nE_getC fl_X9_35 sR_0 rfl dX9_parish_5 ?_
  refine nE_iconst (v := 2) dX9_parish_8 (by decide) ?_
  refine nE_iconst (v := 0) dX9_parish_9 (by decide) ?_
  refine nG_iast (j := 2) sR_9 (by decide) dX9_parish_10 ⟨(nh_vi (by decide)), ?_⟩
  refine nE_aload_n dX9_parish_11 rfl rfl ?_
  refine nE_getC fl_X9_35 sR_0 rfl dX9_parish_12 ?_
  refine nE_iconst (v := 3) dX9_parish_15 (by decide) ?_
  refine nE_iconst (v := 0) dX9_parish_16 (by decide) ?_
  refine nG_iast (j := 3) sR_9 (by decide) dX9_parish_17 ⟨(nh_vi (by decide)), ?_⟩
  refine nE_bipush (v := 81) dX9_parish_18 (by decide) ?_
  refine nE_istore_n dX9_parish_20 rfl rfl (by decide) ?_
  exact h
set_option maxRecDepth 20000 in
theorem sg_X9_parish_21 (x1 : Int32) {σ : nh_S} {Q : Option Value → nh_S → Prop} (h : (162 ≤ x1 → (nh_E kX9_parish 41 [some (.ref 0), none] [] σ Q)) ∧ (¬ (162 ≤ x1) → ((vp_in x1 162) ∧ nh_E kX9_parish 21 [some (.ref 0), some (.int (x1 + 1))] [] (nh_wa σ 4 x1.toNatClampNeg 0) Q))) : nh_E kX9_parish 21 [some (.ref 0), some (.int x1)] [] σ Q := by
  refine nE_iload_n dX9_parish_21 rfl rfl ?_
  refine nE_sipush (v := 162) dX9_parish_22 (by decide) ?_
  refine nE_icmp_ge (tgt := 41) dX9_parish_25 (by decide) ⟨fun c1 => ?_, fun c1 => ?_⟩
  · have h := h.1 c1
    refine nE_weak 1 ?_
    exact h
  · have h := h.2 c1
    refine nE_aload_n dX9_parish_28 rfl rfl ?_
    refine nE_getC fl_X9_20 sR_0 rfl dX9_parish_29 ?_
    refine nE_iload_n dX9_parish_32 rfl rfl ?_
    refine nE_iconst (v := 0) dX9_parish_33 (by decide) ?_
    obtain ⟨g2, h⟩ := h
    refine nG_iast (j := x1.toNatClampNeg) sR_4 rfl dX9_parish_34 ⟨g2, ?_⟩
    refine nE_iinc (v := x1 + 1) dX9_parish_35 rfl rfl (by decide) rfl ?_
    refine nE_goto (tgt := 21) dX9_parish_38 (by decide) ?_
    exact h
set_option maxRecDepth 20000 in
theorem sg_X9_parish_41  {σ : nh_S} {Q : Option Value → nh_S → Prop} (h : (¬ (σ.1 0 20 = 0) → ((σ.1 0 20 ≤ 0 → (nh_E kX9_parish 108 [some (.ref 0), some (.int 0)] [] (nh_wa (nh_wa (nh_si σ 0 16 0) 9 0 (σ.2.1 9 2)) 9 1 (((nh_wa (nh_si σ 0 16 0) 9 0 (σ.2.1 9 2))).2.1 9 3)) Q)) ∧ (¬ (σ.1 0 20 ≤ 0) → (Q (some (.int ((-10) - (σ.1 0 20)))) (nh_si σ 0 16 0))))) ∧ (σ.1 0 20 = 0 → (nh_E kX9_here 0 [some (.ref 0)] [] σ (nh_qi fun r4 τ3 => (r4 < 0 → ((τ3.1 0 20 ≤ 0 → (nh_E kX9_parish 108 [some (.ref 0), some (.int 0)] [] (nh_wa (nh_wa (nh_si τ3 0 16 0) 9 0 (τ3.2.1 9 2)) 9 1 (((nh_wa (nh_si τ3 0 16 0) 9 0 (τ3.2.1 9 2))).2.1 9 3)) Q)) ∧ (¬ (τ3.1 0 20 ≤ 0) → (Q (some (.int ((-10) - (τ3.1 0 20)))) (nh_si τ3 0 16 0))))) ∧ (¬ (r4 < 0) → (nh_E kX9_takeClause 0 [some (.ref 0), none] [] τ3 (nh_qv fun τ8 => nh_E kX9_parish 41 [some (.ref 0), none] [] τ8 Q))))))) : nh_E kX9_parish 41 [some (.ref 0), none] [] σ Q := by
  refine nE_aload_n dX9_parish_41 rfl rfl ?_
  refine nE_getI fl_X9_109 sR_0 rfl dX9_parish_42 ?_
  refine nE_if_ne (tgt := 62) dX9_parish_45 (by decide) ⟨fun c1 => ?_, fun c1 => ?_⟩
  · have h := h.1 c1
    refine nE_aload_n dX9_parish_62 rfl rfl ?_
    refine nE_iconst (v := 0) dX9_parish_63 (by decide) ?_
    refine nE_putI fl_X9_100 sR_0 rfl ⟨rfl, rfl⟩ dX9_parish_64 ?_
    refine nE_aload_n dX9_parish_67 rfl rfl ?_
    refine nE_getI fl_X9_109 sR_0 rfl dX9_parish_68 ?_
    refine nE_if_le (tgt := 82) dX9_parish_71 (by decide) ⟨fun c2 => ?_, fun c2 => ?_⟩
    · have h := h.1 c2
      refine nE_aload_n dX9_parish_82 rfl rfl ?_
      refine nE_getC fl_X9_35 sR_0 rfl dX9_parish_83 ?_
      refine nE_iconst (v := 0) dX9_parish_86 (by decide) ?_
      refine nE_aload_n dX9_parish_87 rfl rfl ?_
      refine nE_getC fl_X9_35 sR_0 rfl dX9_parish_88 ?_
      refine nE_iconst (v := 2) dX9_parish_91 (by decide) ?_
      refine nG_iald (j := 2) sR_9 (by decide) dX9_parish_92 ⟨(nh_vi (by decide)), ?_⟩
      refine nG_iast (j := 0) sR_9 (by decide) dX9_parish_93 ⟨(nh_vi (by decide)), ?_⟩
      refine nE_aload_n dX9_parish_94 rfl rfl ?_
      refine nE_getC fl_X9_35 sR_0 rfl dX9_parish_95 ?_
      refine nE_iconst (v := 1) dX9_parish_98 (by decide) ?_
      refine nE_aload_n dX9_parish_99 rfl rfl ?_
      refine nE_getC fl_X9_35 sR_0 rfl dX9_parish_100 ?_
      refine nE_iconst (v := 3) dX9_parish_103 (by decide) ?_
      refine nG_iald (j := 3) sR_9 (by decide) dX9_parish_104 ⟨(nh_vi (by decide)), ?_⟩
      refine nG_iast (j := 1) sR_9 (by decide) dX9_parish_105 ⟨(nh_vi (by decide)), ?_⟩
      refine nE_iconst (v := 0) dX9_parish_106 (by decide) ?_
      refine nE_istore_n dX9_parish_107 rfl rfl (by decide) ?_
      exact h
    · have h := h.2 c2
      refine nE_bipush (v := (-10)) dX9_parish_74 (by decide) ?_
      refine nE_aload_n dX9_parish_76 rfl rfl ?_
      refine nE_getI fl_X9_109 sR_0 rfl dX9_parish_77 ?_
      refine nE_isub dX9_parish_80 ?_
      exact nE_iret dX9_parish_81 rfl h
  · have h := h.2 c1
    refine nE_aload_n dX9_parish_48 rfl rfl ?_
    refine nE_callV (As := []) yf_X9_here ⟨by decide, by decide⟩ rfl rfl sR_0 rfl vl_X9_112 dX9_parish_49 rfl rfl (Nat.le_of_ble_eq_true rfl) (Nat.le_of_ble_eq_true rfl) (nE_mono (fun z5 τ3 h => ?_) h)
    obtain ⟨r4, rfl, h⟩ := h
    refine nE_if_lt (tgt := 62) dX9_parish_52 (by decide) ⟨fun c6 => ?_, fun c6 => ?_⟩
    · have h := h.1 c6
      refine nE_aload_n dX9_parish_62 rfl rfl ?_
      refine nE_iconst (v := 0) dX9_parish_63 (by decide) ?_
      refine nE_putI fl_X9_100 sR_0 rfl ⟨rfl, rfl⟩ dX9_parish_64 ?_
      refine nE_aload_n dX9_parish_67 rfl rfl ?_
      refine nE_getI fl_X9_109 sR_0 rfl dX9_parish_68 ?_
      refine nE_if_le (tgt := 82) dX9_parish_71 (by decide) ⟨fun c7 => ?_, fun c7 => ?_⟩
      · have h := h.1 c7
        refine nE_aload_n dX9_parish_82 rfl rfl ?_
        refine nE_getC fl_X9_35 sR_0 rfl dX9_parish_83 ?_
        refine nE_iconst (v := 0) dX9_parish_86 (by decide) ?_
        refine nE_aload_n dX9_parish_87 rfl rfl ?_
        refine nE_getC fl_X9_35 sR_0 rfl dX9_parish_88 ?_
        refine nE_iconst (v := 2) dX9_parish_91 (by decide) ?_
        refine nG_iald (j := 2) sR_9 (by decide) dX9_parish_92 ⟨(nh_vi (by decide)), ?_⟩
        refine nG_iast (j := 0) sR_9 (by decide) dX9_parish_93 ⟨(nh_vi (by decide)), ?_⟩
        refine nE_aload_n dX9_parish_94 rfl rfl ?_
        refine nE_getC fl_X9_35 sR_0 rfl dX9_parish_95 ?_
        refine nE_iconst (v := 1) dX9_parish_98 (by decide) ?_
        refine nE_aload_n dX9_parish_99 rfl rfl ?_
        refine nE_getC fl_X9_35 sR_0 rfl dX9_parish_100 ?_
        refine nE_iconst (v := 3) dX9_parish_103 (by decide) ?_
        refine nG_iald (j := 3) sR_9 (by decide) dX9_parish_104 ⟨(nh_vi (by decide)), ?_⟩
        refine nG_iast (j := 1) sR_9 (by decide) dX9_parish_105 ⟨(nh_vi (by decide)), ?_⟩
        refine nE_iconst (v := 0) dX9_parish_106 (by decide) ?_
        refine nE_istore_n dX9_parish_107 rfl rfl (by decide) ?_
        exact h
      · have h := h.2 c7
        refine nE_bipush (v := (-10)) dX9_parish_74 (by decide) ?_
        refine nE_aload_n dX9_parish_76 rfl rfl ?_
        refine nE_getI fl_X9_109 sR_0 rfl dX9_parish_77 ?_
        refine nE_isub dX9_parish_80 ?_
        exact nE_iret dX9_parish_81 rfl h
    · have h := h.2 c6
      refine nE_aload_n dX9_parish_55 rfl rfl ?_
      refine nE_callV (As := []) yf_X9_takeClause ⟨by decide, by decide⟩ rfl rfl sR_0 rfl vl_X9_170 dX9_parish_56 rfl rfl (Nat.le_of_ble_eq_true rfl) (Nat.le_of_ble_eq_true rfl) (nE_mono (fun z10 τ8 h => ?_) h)
      obtain ⟨rfl, h⟩ := h
      refine nE_goto (tgt := 41) dX9_parish_59 (by decide) ?_
      exact h
set_option maxRecDepth 20000 in
theorem sg_X9_parish_108 (x1 : Int32) {σ : nh_S} {Q : Option Value → nh_S → Prop} (h : (54 ≤ x1 → (nh_E kX9_parish 137 [some (.ref 0), some (.int 0)] [] σ Q)) ∧ (¬ (54 ≤ x1) → ((vp_in (54 + x1) 108) ∧ (vp_in x1 108) ∧ nh_E kX9_parish 108 [some (.ref 0), some (.int (x1 + 1))] [] (nh_wa σ 3 x1.toNatClampNeg (σ.2.1 3 ((54 + x1).toNatClampNeg))) Q))) : nh_E kX9_parish 108 [some (.ref 0), some (.int x1)] [] σ Q := by
  refine nE_iload_n dX9_parish_108 rfl rfl ?_
  refine nE_bipush (v := 54) dX9_parish_109 (by decide) ?_
  refine nE_icmp_ge (tgt := 135) dX9_parish_111 (by decide) ⟨fun c1 => ?_, fun c1 => ?_⟩
  · have h := h.1 c1
    refine nE_iconst (v := 0) dX9_parish_135 (by decide) ?_
    refine nE_istore_n dX9_parish_136 rfl rfl (by decide) ?_
    exact h
  · have h := h.2 c1
    refine nE_aload_n dX9_parish_114 rfl rfl ?_
    refine nE_getC fl_X9_17 sR_0 rfl dX9_parish_115 ?_
    refine nE_iload_n dX9_parish_118 rfl rfl ?_
    refine nE_aload_n dX9_parish_119 rfl rfl ?_
    refine nE_getC fl_X9_17 sR_0 rfl dX9_parish_120 ?_
    refine nE_bipush (v := 54) dX9_parish_123 (by decide) ?_
    refine nE_iload_n dX9_parish_125 rfl rfl ?_
    refine nE_iadd dX9_parish_126 ?_
    obtain ⟨g2, h⟩ := h
    refine nG_iald (j := (54 + x1).toNatClampNeg) sR_3 rfl dX9_parish_127 ⟨g2, ?_⟩
    obtain ⟨g3, h⟩ := h
    refine nG_iast (j := x1.toNatClampNeg) sR_3 rfl dX9_parish_128 ⟨g3, ?_⟩
    refine nE_iinc (v := x1 + 1) dX9_parish_129 rfl rfl (by decide) rfl ?_
    refine nE_goto (tgt := 108) dX9_parish_132 (by decide) ?_
    exact h
set_option maxRecDepth 20000 in
theorem sg_X9_parish_137 (x1 : Int32) {σ : nh_S} {Q : Option Value → nh_S → Prop} (h : (81 ≤ x1 → (nh_E kX9_parish 166 [some (.ref 0), some (.int 0)] [] σ Q)) ∧ (¬ (81 ≤ x1) → ((vp_in (81 + x1) 162) ∧ (vp_in x1 162) ∧ nh_E kX9_parish 137 [some (.ref 0), some (.int (x1 + 1))] [] (nh_wa σ 4 x1.toNatClampNeg (σ.2.1 4 ((81 + x1).toNatClampNeg))) Q))) : nh_E kX9_parish 137 [some (.ref 0), some (.int x1)] [] σ Q := by
  refine nE_iload_n dX9_parish_137 rfl rfl ?_
  refine nE_bipush (v := 81) dX9_parish_138 (by decide) ?_
  refine nE_icmp_ge (tgt := 164) dX9_parish_140 (by decide) ⟨fun c1 => ?_, fun c1 => ?_⟩
  · have h := h.1 c1
    refine nE_iconst (v := 0) dX9_parish_164 (by decide) ?_
    refine nE_istore_n dX9_parish_165 rfl rfl (by decide) ?_
    exact h
  · have h := h.2 c1
    refine nE_aload_n dX9_parish_143 rfl rfl ?_
    refine nE_getC fl_X9_20 sR_0 rfl dX9_parish_144 ?_
    refine nE_iload_n dX9_parish_147 rfl rfl ?_
    refine nE_aload_n dX9_parish_148 rfl rfl ?_
    refine nE_getC fl_X9_20 sR_0 rfl dX9_parish_149 ?_
    refine nE_bipush (v := 81) dX9_parish_152 (by decide) ?_
    refine nE_iload_n dX9_parish_154 rfl rfl ?_
    refine nE_iadd dX9_parish_155 ?_
    obtain ⟨g2, h⟩ := h
    refine nG_iald (j := (81 + x1).toNatClampNeg) sR_4 rfl dX9_parish_156 ⟨g2, ?_⟩
    obtain ⟨g3, h⟩ := h
    refine nG_iast (j := x1.toNatClampNeg) sR_4 rfl dX9_parish_157 ⟨g3, ?_⟩
    refine nE_iinc (v := x1 + 1) dX9_parish_158 rfl rfl (by decide) rfl ?_
    refine nE_goto (tgt := 137) dX9_parish_161 (by decide) ?_
    exact h
set_option maxRecDepth 20000 in
theorem sg_X9_parish_166 (x1 : Int32) {σ : nh_S} {Q : Option Value → nh_S → Prop} (h : (12 ≤ x1 → (nh_E kX9_findFar 0 [some (.ref 0), none, none, none] [] (nh_wa (nh_wa (nh_si (nh_si (nh_si (nh_wa σ 1 24 0) 0 11 0) 0 14 0) 0 37 0) 2 0 (vp_nar .boolean 0)) 2 1 (vp_nar .boolean 0)) (nh_qv fun τ2 => Q (some (.int (τ2.2.1 9 0))) τ2))) ∧ (¬ (12 ≤ x1) → ((vp_in (12 + x1) 24) ∧ (vp_in x1 78) ∧ (vp_in x1 24) ∧ (vp_in (12 + x1) 78) ∧ (vp_in x1 12) ∧ nh_E kX9_parish 166 [some (.ref 0), some (.int (x1 + 1))] [] (nh_wa (nh_wa (nh_wa (nh_wa (nh_wa (nh_wa σ 1 x1.toNatClampNeg (σ.2.1 5 ((12 + x1).toNatClampNeg))) 6 x1.toNatClampNeg (σ.2.1 6 ((12 + x1).toNatClampNeg))) 7 x1.toNatClampNeg (σ.2.1 7 ((12 + x1).toNatClampNeg))) 8 x1.toNatClampNeg (σ.2.1 8 ((12 + x1).toNatClampNeg))) 1 ((12 + x1).toNatClampNeg) (1 <<< (x1 &&& 31))) 12 x1.toNatClampNeg 10) Q))) : nh_E kX9_parish 166 [some (.ref 0), some (.int x1)] [] σ Q := by
  refine nE_iload_n dX9_parish_166 rfl rfl ?_
  refine nE_bipush (v := 12) dX9_parish_167 (by decide) ?_
  refine nE_icmp_ge (tgt := 258) dX9_parish_169 (by decide) ⟨fun c1 => ?_, fun c1 => ?_⟩
  · have h := h.1 c1
    refine nE_aload_n dX9_parish_258 rfl rfl ?_
    refine nE_getC fl_X9_7 sR_0 rfl dX9_parish_259 ?_
    refine nE_bipush (v := 24) dX9_parish_262 (by decide) ?_
    refine nE_iconst (v := 0) dX9_parish_264 (by decide) ?_
    refine nG_iast (j := 24) sR_1 (by decide) dX9_parish_265 ⟨(nh_vi (by decide)), ?_⟩
    refine nE_aload_n dX9_parish_266 rfl rfl ?_
    refine nE_iconst (v := 0) dX9_parish_267 (by decide) ?_
    refine nE_putI fl_X9_173 sR_0 rfl ⟨rfl, rfl⟩ dX9_parish_268 ?_
    refine nE_aload_n dX9_parish_271 rfl rfl ?_
    refine nE_iconst (v := 0) dX9_parish_272 (by decide) ?_
    refine nE_putI fl_X9_176 sR_0 rfl ⟨rfl, rfl⟩ dX9_parish_273 ?_
    refine nE_aload_n dX9_parish_276 rfl rfl ?_
    refine nE_iconst (v := 0) dX9_parish_277 (by decide) ?_
    refine nE_putI fl_X9_179 sR_0 rfl ⟨rfl, rfl⟩ dX9_parish_278 ?_
    refine nE_aload_n dX9_parish_281 rfl rfl ?_
    refine nE_getC fl_X9_13 sR_0 rfl dX9_parish_282 ?_
    refine nE_iconst (v := 0) dX9_parish_285 (by decide) ?_
    refine nE_iconst (v := 0) dX9_parish_286 (by decide) ?_
    refine nG_zast (j := 0) sR_2 (by decide) dX9_parish_287 ⟨(nh_vi (by decide)), ?_⟩
    refine nE_aload_n dX9_parish_288 rfl rfl ?_
    refine nE_getC fl_X9_13 sR_0 rfl dX9_parish_289 ?_
    refine nE_iconst (v := 1) dX9_parish_292 (by decide) ?_
    refine nE_iconst (v := 0) dX9_parish_293 (by decide) ?_
    refine nG_zast (j := 1) sR_2 (by decide) dX9_parish_294 ⟨(nh_vi (by decide)), ?_⟩
    refine nE_aload_n dX9_parish_295 rfl rfl ?_
    refine nE_callV (As := []) yf_X9_findFar ⟨by decide, by decide⟩ rfl rfl sR_0 rfl vl_X9_182 dX9_parish_296 rfl rfl (Nat.le_of_ble_eq_true rfl) (Nat.le_of_ble_eq_true rfl) (nE_mono (fun z4 τ2 h => ?_) h)
    obtain ⟨rfl, h⟩ := h
    refine nE_aload_n dX9_parish_299 rfl rfl ?_
    refine nE_getC fl_X9_35 sR_0 rfl dX9_parish_300 ?_
    refine nE_iconst (v := 0) dX9_parish_303 (by decide) ?_
    refine nG_iald (j := 0) sR_9 (by decide) dX9_parish_304 ⟨(nh_vi (by decide)), ?_⟩
    exact nE_iret dX9_parish_305 rfl h
  · have h := h.2 c1
    refine nE_aload_n dX9_parish_172 rfl rfl ?_
    refine nE_getC fl_X9_7 sR_0 rfl dX9_parish_173 ?_
    refine nE_iload_n dX9_parish_176 rfl rfl ?_
    refine nE_aload_n dX9_parish_177 rfl rfl ?_
    refine nE_getC fl_X9_23 sR_0 rfl dX9_parish_178 ?_
    refine nE_bipush (v := 12) dX9_parish_181 (by decide) ?_
    refine nE_iload_n dX9_parish_183 rfl rfl ?_
    refine nE_iadd dX9_parish_184 ?_
    obtain ⟨g5, h⟩ := h
    refine nG_iald (j := (12 + x1).toNatClampNeg) sR_5 rfl dX9_parish_185 ⟨g5, ?_⟩
    obtain ⟨g6, h⟩ := h
    refine nG_iast (j := x1.toNatClampNeg) sR_1 rfl dX9_parish_186 ⟨g6, ?_⟩
    refine nE_aload_n dX9_parish_187 rfl rfl ?_
    refine nE_getC fl_X9_26 sR_0 rfl dX9_parish_188 ?_
    refine nE_iload_n dX9_parish_191 rfl rfl ?_
    refine nE_aload_n dX9_parish_192 rfl rfl ?_
    refine nE_getC fl_X9_26 sR_0 rfl dX9_parish_193 ?_
    refine nE_bipush (v := 12) dX9_parish_196 (by decide) ?_
    refine nE_iload_n dX9_parish_198 rfl rfl ?_
    refine nE_iadd dX9_parish_199 ?_
    refine nG_iald (j := (12 + x1).toNatClampNeg) sR_6 rfl dX9_parish_200 ⟨g5, ?_⟩
    obtain ⟨g7, h⟩ := h
    refine nG_iast (j := x1.toNatClampNeg) sR_6 rfl dX9_parish_201 ⟨g7, ?_⟩
    refine nE_aload_n dX9_parish_202 rfl rfl ?_
    refine nE_getC fl_X9_29 sR_0 rfl dX9_parish_203 ?_
    refine nE_iload_n dX9_parish_206 rfl rfl ?_
    refine nE_aload_n dX9_parish_207 rfl rfl ?_
    refine nE_getC fl_X9_29 sR_0 rfl dX9_parish_208 ?_
    refine nE_bipush (v := 12) dX9_parish_211 (by decide) ?_
    refine nE_iload_n dX9_parish_213 rfl rfl ?_
    refine nE_iadd dX9_parish_214 ?_
    refine nG_iald (j := (12 + x1).toNatClampNeg) sR_7 rfl dX9_parish_215 ⟨g5, ?_⟩
    refine nG_iast (j := x1.toNatClampNeg) sR_7 rfl dX9_parish_216 ⟨g7, ?_⟩
    refine nE_aload_n dX9_parish_217 rfl rfl ?_
    refine nE_getC fl_X9_32 sR_0 rfl dX9_parish_218 ?_
    refine nE_iload_n dX9_parish_221 rfl rfl ?_
    refine nE_aload_n dX9_parish_222 rfl rfl ?_
    refine nE_getC fl_X9_32 sR_0 rfl dX9_parish_223 ?_
    refine nE_bipush (v := 12) dX9_parish_226 (by decide) ?_
    refine nE_iload_n dX9_parish_228 rfl rfl ?_
    refine nE_iadd dX9_parish_229 ?_
    refine nG_iald (j := (12 + x1).toNatClampNeg) sR_8 rfl dX9_parish_230 ⟨g5, ?_⟩
    refine nG_iast (j := x1.toNatClampNeg) sR_8 rfl dX9_parish_231 ⟨g7, ?_⟩
    refine nE_aload_n dX9_parish_232 rfl rfl ?_
    refine nE_getC fl_X9_7 sR_0 rfl dX9_parish_233 ?_
    refine nE_bipush (v := 12) dX9_parish_236 (by decide) ?_
    refine nE_iload_n dX9_parish_238 rfl rfl ?_
    refine nE_iadd dX9_parish_239 ?_
    refine nE_iconst (v := 1) dX9_parish_240 (by decide) ?_
    refine nE_iload_n dX9_parish_241 rfl rfl ?_
    refine nE_ishl dX9_parish_242 ?_
    obtain ⟨g8, h⟩ := h
    refine nG_iast (j := (12 + x1).toNatClampNeg) sR_1 rfl dX9_parish_243 ⟨g8, ?_⟩
    refine nE_aload_n dX9_parish_244 rfl rfl ?_
    refine nE_getC fl_X9_44 sR_0 rfl dX9_parish_245 ?_
    refine nE_iload_n dX9_parish_248 rfl rfl ?_
    refine nE_bipush (v := 10) dX9_parish_249 (by decide) ?_
    obtain ⟨g9, h⟩ := h
    refine nG_iast (j := x1.toNatClampNeg) sR_12 rfl dX9_parish_251 ⟨g9, ?_⟩
    refine nE_iinc (v := x1 + 1) dX9_parish_252 rfl rfl (by decide) rfl ?_
    refine nE_goto (tgt := 166) dX9_parish_255 (by decide) ?_
    exact h
set_option maxRecDepth 20000 in
theorem sg_X9_plan_0  {σ : nh_S} {Q : Option Value → nh_S → Prop} (h : (σ.1 0 16 ≤ 200 → (nh_E kX9_beginReading 0 [some (.ref 0)] [] σ (nh_qv fun τ2 => nh_E kX9_plan 22 [some (.ref 0), none, none, none, none] [] (nh_si τ2 0 12 0) Q))) ∧ (¬ (σ.1 0 16 ≤ 200) → (Q (some (.int (-1000003))) σ))) : nh_E kX9_plan 0 [some (.ref 0), none, none, none, none] [] σ Q := by
  refine nE_aload_n dX9_plan_0 rfl rfl ?_
  refine nE_getI fl_X9_100 sR_0 rfl dX9_plan_1 ?_
  refine nE_sipush (v := 200) dX9_plan_4 (by decide) ?_
  refine nE_icmp_le (tgt := 13) dX9_plan_7 (by decide) ⟨fun c1 => ?_, fun c1 => ?_⟩
  · have h := h.1 c1
    refine nE_aload_n dX9_plan_13 rfl rfl ?_
    refine nE_callV (As := []) yf_X9_beginReading ⟨by decide, by decide⟩ rfl rfl sR_0 rfl vl_X9_167 dX9_plan_14 rfl rfl (Nat.le_of_ble_eq_true rfl) (Nat.le_of_ble_eq_true rfl) (nE_mono (fun z4 τ2 h => ?_) h)
    obtain ⟨rfl, h⟩ := h
    refine nE_aload_n dX9_plan_17 rfl rfl ?_
    refine nE_iconst (v := 0) dX9_plan_18 (by decide) ?_
    refine nE_putI fl_X9_186 sR_0 rfl ⟨rfl, rfl⟩ dX9_plan_19 ?_
    exact h
  · have h := h.2 c1
    refine nE_ldc kc_X9_185 dX9_plan_10 ?_
    exact nE_iret dX9_plan_12 rfl h
set_option maxRecDepth 20000 in
theorem sg_X9_plan_22  {σ : nh_S} {Q : Option Value → nh_S → Prop} (h : (¬ (σ.1 0 20 = 0) → ((σ.1 0 20 ≤ 0 → (nh_E kX9_plan 267 [some (.ref 0), some (.int 0), none, none, none] [] (nh_si σ 0 16 0) Q)) ∧ (¬ (σ.1 0 20 ≤ 0) → (Q (some (.int ((-10) - (σ.1 0 20)))) (nh_si σ 0 16 0))))) ∧ (σ.1 0 20 = 0 → (nh_E kX9_here 0 [some (.ref 0)] [] σ (nh_qi fun r4 τ3 => (r4 < 0 → ((τ3.1 0 20 ≤ 0 → (nh_E kX9_plan 267 [some (.ref 0), some (.int 0), none, none, none] [] (nh_si τ3 0 16 0) Q)) ∧ (¬ (τ3.1 0 20 ≤ 0) → (Q (some (.int ((-10) - (τ3.1 0 20)))) (nh_si τ3 0 16 0))))) ∧ (¬ (r4 < 0) → (nh_E kX9_takeWord 0 [some (.ref 0), none] [] τ3 (nh_qv fun τ8 => nh_E kX9_isWord 0 [some (.ref 0), some (.int 4), some (.int 119), some (.int 97), some (.int 107), some (.int 101), some (.int 0), none, none] [] τ8 (nh_qi fun r12 τ11 => nh_E kX9_want 0 [some (.ref 0), some (.int r12), some (.int 1), some (.int (τ11.1 0 18))] [] τ11 (nh_qi fun r15 τ14 => (r15 = 0 → (nh_E kX9_takeEnd 0 [some (.ref 0)] [] τ14 (nh_qv fun τ18 => nh_E kX9_plan 22 [some (.ref 0), none, none, none, none] [] τ18 Q))) ∧ (¬ (r15 = 0) → (nh_E kX9_want 0 [some (.ref 0), some (.int (if ¬ (20 ≤ τ14.1 0 12) then 1 else 0)), some (.int 3), some (.int (τ14.1 0 18))] [] τ14 (nh_qi fun r22 τ21 => (r22 = 0 → (nh_E kX9_takeEnd 0 [some (.ref 0)] [] τ21 (nh_qv fun τ25 => nh_E kX9_plan 22 [some (.ref 0), none, none, none, none] [] τ25 Q))) ∧ (¬ (r22 = 0) → (nh_E kX9_takeNumber 0 [some (.ref 0), some (.int 0), some (.int ((τ21.2.1 9 0) - 1)), none, none, none] [] τ21 (nh_qi fun r29 τ28 => nh_E kX9_takeNumber 0 [some (.ref 0), some (.int 0), some (.int ((τ28.2.1 9 0) - 1)), none, none, none] [] τ28 (nh_qi fun r32 τ31 => nh_E kX9_plan 135 [some (.ref 0), some (.int r29), some (.int r32), some (.int (if r29 = r32 then 1 else 0)), some (.int 20)] [] τ31 Q)))))))))))))))) : nh_E kX9_plan 22 [some (.ref 0), none, none, none, none] [] σ Q := by
  refine nE_aload_n dX9_plan_22 rfl rfl ?_
  refine nE_getI fl_X9_109 sR_0 rfl dX9_plan_23 ?_
  refine nE_if_ne (tgt := 245) dX9_plan_26 (by decide) ⟨fun c1 => ?_, fun c1 => ?_⟩
  · have h := h.1 c1
    refine nE_aload_n dX9_plan_245 rfl rfl ?_
    refine nE_iconst (v := 0) dX9_plan_246 (by decide) ?_
    refine nE_putI fl_X9_100 sR_0 rfl ⟨rfl, rfl⟩ dX9_plan_247 ?_
    refine nE_aload_n dX9_plan_250 rfl rfl ?_
    refine nE_getI fl_X9_109 sR_0 rfl dX9_plan_251 ?_
    refine nE_if_le (tgt := 265) dX9_plan_254 (by decide) ⟨fun c2 => ?_, fun c2 => ?_⟩
    · have h := h.1 c2
      refine nE_iconst (v := 0) dX9_plan_265 (by decide) ?_
      refine nE_istore_n dX9_plan_266 rfl rfl (by decide) ?_
      exact h
    · have h := h.2 c2
      refine nE_bipush (v := (-10)) dX9_plan_257 (by decide) ?_
      refine nE_aload_n dX9_plan_259 rfl rfl ?_
      refine nE_getI fl_X9_109 sR_0 rfl dX9_plan_260 ?_
      refine nE_isub dX9_plan_263 ?_
      exact nE_iret dX9_plan_264 rfl h
  · have h := h.2 c1
    refine nE_aload_n dX9_plan_29 rfl rfl ?_
    refine nE_callV (As := []) yf_X9_here ⟨by decide, by decide⟩ rfl rfl sR_0 rfl vl_X9_112 dX9_plan_30 rfl rfl (Nat.le_of_ble_eq_true rfl) (Nat.le_of_ble_eq_true rfl) (nE_mono (fun z5 τ3 h => ?_) h)
    obtain ⟨r4, rfl, h⟩ := h
    refine nE_if_lt (tgt := 245) dX9_plan_33 (by decide) ⟨fun c6 => ?_, fun c6 => ?_⟩
    · have h := h.1 c6
      refine nE_aload_n dX9_plan_245 rfl rfl ?_
      refine nE_iconst (v := 0) dX9_plan_246 (by decide) ?_
      refine nE_putI fl_X9_100 sR_0 rfl ⟨rfl, rfl⟩ dX9_plan_247 ?_
      refine nE_aload_n dX9_plan_250 rfl rfl ?_
      refine nE_getI fl_X9_109 sR_0 rfl dX9_plan_251 ?_
      refine nE_if_le (tgt := 265) dX9_plan_254 (by decide) ⟨fun c7 => ?_, fun c7 => ?_⟩
      · have h := h.1 c7
        refine nE_iconst (v := 0) dX9_plan_265 (by decide) ?_
        refine nE_istore_n dX9_plan_266 rfl rfl (by decide) ?_
        exact h
      · have h := h.2 c7
        refine nE_bipush (v := (-10)) dX9_plan_257 (by decide) ?_
        refine nE_aload_n dX9_plan_259 rfl rfl ?_
        refine nE_getI fl_X9_109 sR_0 rfl dX9_plan_260 ?_
        refine nE_isub dX9_plan_263 ?_
        exact nE_iret dX9_plan_264 rfl h
    · have h := h.2 c6
      refine nE_aload_n dX9_plan_36 rfl rfl ?_
      refine nE_callV (As := []) yf_X9_takeWord ⟨by decide, by decide⟩ rfl rfl sR_0 rfl vl_X9_139 dX9_plan_37 rfl rfl (Nat.le_of_ble_eq_true rfl) (Nat.le_of_ble_eq_true rfl) (nE_mono (fun z10 τ8 h => ?_) h)
      obtain ⟨rfl, h⟩ := h
      refine nE_aload_n dX9_plan_40 rfl rfl ?_
      refine nE_aload_n dX9_plan_41 rfl rfl ?_
      refine nE_iconst (v := 4) dX9_plan_42 (by decide) ?_
      refine nE_bipush (v := 119) dX9_plan_43 (by decide) ?_
      refine nE_bipush (v := 97) dX9_plan_45 (by decide) ?_
      refine nE_bipush (v := 107) dX9_plan_47 (by decide) ?_
      refine nE_bipush (v := 101) dX9_plan_49 (by decide) ?_
      refine nE_iconst (v := 0) dX9_plan_51 (by decide) ?_
      refine nE_callV (As := [.int 4, .int 119, .int 97, .int 107, .int 101, .int 0]) yf_X9_isWord ⟨by decide, by decide⟩ rfl rfl sR_0 rfl vl_X9_142 dX9_plan_52 rfl rfl (Nat.le_of_ble_eq_true rfl) (Nat.le_of_ble_eq_true rfl) (nE_mono (fun z13 τ11 h => ?_) h)
      obtain ⟨r12, rfl, h⟩ := h
      refine nE_iconst (v := 1) dX9_plan_55 (by decide) ?_
      refine nE_aload_n dX9_plan_56 rfl rfl ?_
      refine nE_getI fl_X9_116 sR_0 rfl dX9_plan_57 ?_
      refine nE_callV (As := [.int r12, .int 1, .int (τ11.1 0 18)]) yf_X9_want ⟨by decide, by decide⟩ rfl rfl sR_0 rfl vl_X9_130 dX9_plan_60 rfl rfl (Nat.le_of_ble_eq_true rfl) (Nat.le_of_ble_eq_true rfl) (nE_mono (fun z16 τ14 h => ?_) h)
      obtain ⟨r15, rfl, h⟩ := h
      refine nE_if_eq (tgt := 238) dX9_plan_63 (by decide) ⟨fun c17 => ?_, fun c17 => ?_⟩
      · have h := h.1 c17
        refine nE_aload_n dX9_plan_238 rfl rfl ?_
        refine nE_callV (As := []) yf_X9_takeEnd ⟨by decide, by decide⟩ rfl rfl sR_0 rfl vl_X9_164 dX9_plan_239 rfl rfl (Nat.le_of_ble_eq_true rfl) (Nat.le_of_ble_eq_true rfl) (nE_mono (fun z20 τ18 h => ?_) h)
        obtain ⟨rfl, h⟩ := h
        refine nE_goto (tgt := 22) dX9_plan_242 (by decide) ?_
        exact h
      · have h := h.2 c17
        refine nE_aload_n dX9_plan_66 rfl rfl ?_
        refine nE_aload_n dX9_plan_67 rfl rfl ?_
        refine nE_getI fl_X9_186 sR_0 rfl dX9_plan_68 ?_
        refine nE_bipush (v := 20) dX9_plan_71 (by decide) ?_
        have j38 : nh_E kX9_plan 81 [some (.ref 0), none, none, none, none] [.int (if ¬ (20 ≤ τ14.1 0 12) then 1 else 0), .ref 0] τ14 Q := by
          refine nE_iconst (v := 3) dX9_plan_81 (by decide) ?_
          refine nE_aload_n dX9_plan_82 rfl rfl ?_
          refine nE_getI fl_X9_116 sR_0 rfl dX9_plan_83 ?_
          refine nE_callV (As := [.int (if ¬ (20 ≤ τ14.1 0 12) then 1 else 0), .int 3, .int (τ14.1 0 18)]) yf_X9_want ⟨by decide, by decide⟩ rfl rfl sR_0 rfl vl_X9_130 dX9_plan_86 rfl rfl (Nat.le_of_ble_eq_true rfl) (Nat.le_of_ble_eq_true rfl) (nE_mono (fun z23 τ21 h => ?_) h)
          obtain ⟨r22, rfl, h⟩ := h
          refine nE_if_eq (tgt := 238) dX9_plan_89 (by decide) ⟨fun c24 => ?_, fun c24 => ?_⟩
          · have h := h.1 c24
            refine nE_aload_n dX9_plan_238 rfl rfl ?_
            refine nE_callV (As := []) yf_X9_takeEnd ⟨by decide, by decide⟩ rfl rfl sR_0 rfl vl_X9_164 dX9_plan_239 rfl rfl (Nat.le_of_ble_eq_true rfl) (Nat.le_of_ble_eq_true rfl) (nE_mono (fun z27 τ25 h => ?_) h)
            obtain ⟨rfl, h⟩ := h
            refine nE_goto (tgt := 22) dX9_plan_242 (by decide) ?_
            exact h
          · have h := h.2 c24
            refine nE_aload_n dX9_plan_92 rfl rfl ?_
            refine nE_iconst (v := 0) dX9_plan_93 (by decide) ?_
            refine nE_aload_n dX9_plan_94 rfl rfl ?_
            refine nE_getC fl_X9_35 sR_0 rfl dX9_plan_95 ?_
            refine nE_iconst (v := 0) dX9_plan_98 (by decide) ?_
            refine nG_iald (j := 0) sR_9 (by decide) dX9_plan_99 ⟨(nh_vi (by decide)), ?_⟩
            refine nE_iconst (v := 1) dX9_plan_100 (by decide) ?_
            refine nE_isub dX9_plan_101 ?_
            refine nE_callV (As := [.int 0, .int ((τ21.2.1 9 0) - 1)]) yf_X9_takeNumber ⟨by decide, by decide⟩ rfl rfl sR_0 rfl vl_X9_135 dX9_plan_102 rfl rfl (Nat.le_of_ble_eq_true rfl) (Nat.le_of_ble_eq_true rfl) (nE_mono (fun z30 τ28 h => ?_) h)
            obtain ⟨r29, rfl, h⟩ := h
            refine nE_istore_n dX9_plan_105 rfl rfl (by decide) ?_
            refine nE_aload_n dX9_plan_106 rfl rfl ?_
            refine nE_iconst (v := 0) dX9_plan_107 (by decide) ?_
            refine nE_aload_n dX9_plan_108 rfl rfl ?_
            refine nE_getC fl_X9_35 sR_0 rfl dX9_plan_109 ?_
            refine nE_iconst (v := 0) dX9_plan_112 (by decide) ?_
            refine nG_iald (j := 0) sR_9 (by decide) dX9_plan_113 ⟨(nh_vi (by decide)), ?_⟩
            refine nE_iconst (v := 1) dX9_plan_114 (by decide) ?_
            refine nE_isub dX9_plan_115 ?_
            refine nE_callV (As := [.int 0, .int ((τ28.2.1 9 0) - 1)]) yf_X9_takeNumber ⟨by decide, by decide⟩ rfl rfl sR_0 rfl vl_X9_135 dX9_plan_116 rfl rfl (Nat.le_of_ble_eq_true rfl) (Nat.le_of_ble_eq_true rfl) (nE_mono (fun z33 τ31 h => ?_) h)
            obtain ⟨r32, rfl, h⟩ := h
            refine nE_istore_n dX9_plan_119 rfl rfl (by decide) ?_
            refine nE_iload_n dX9_plan_120 rfl rfl ?_
            refine nE_iload_n dX9_plan_121 rfl rfl ?_
            have j34 : nh_E kX9_plan 130 [some (.ref 0), some (.int r29), some (.int r32), none, none] [.int (if r29 = r32 then 1 else 0)] τ31 Q := by
              refine nE_istore_n dX9_plan_130 rfl rfl (by decide) ?_
              refine nE_bipush (v := 20) dX9_plan_131 (by decide) ?_
              refine nE_istore dX9_plan_133 rfl (by decide) ?_
              exact h
            refine nE_icmp_ne (tgt := 129) dX9_plan_122 (by decide) ⟨fun c35 => ?_, fun c35 => ?_⟩
            · skip
              have f36 : (r29 = r32) = False := eq_false c35
              refine nE_iconst (v := 0) dX9_plan_129 (by decide) ?_
              exact nh_topi (show ((if r29 = r32 then 1 else 0) : Int32) = 0 from by simp only [if_true, if_false, not_true_eq_false, not_false_eq_true, true_and, and_true, false_and, and_false, true_or, or_true, false_or, or_false, if_pos, if_neg, ite_true, ite_false, f36]) j34
            · skip
              have f37 : (r29 = r32) = True := eq_true c35
              refine nE_iconst (v := 1) dX9_plan_125 (by decide) ?_
              refine nE_goto (tgt := 130) dX9_plan_126 (by decide) ?_
              exact nh_topi (show ((if r29 = r32 then 1 else 0) : Int32) = 1 from by simp only [if_true, if_false, not_true_eq_false, not_false_eq_true, true_and, and_true, false_and, and_false, true_or, or_true, false_or, or_false, if_pos, if_neg, ite_true, ite_false, f37]) j34
        refine nE_icmp_ge (tgt := 80) dX9_plan_73 (by decide) ⟨fun c39 => ?_, fun c39 => ?_⟩
        · skip
          have f40 : (20 ≤ τ14.1 0 12) = True := eq_true c39
          refine nE_iconst (v := 0) dX9_plan_80 (by decide) ?_
          exact nh_topi (show ((if ¬ (20 ≤ τ14.1 0 12) then 1 else 0) : Int32) = 0 from by simp only [if_true, if_false, not_true_eq_false, not_false_eq_true, true_and, and_true, false_and, and_false, true_or, or_true, false_or, or_false, if_pos, if_neg, ite_true, ite_false, f40]) j38
        · skip
          have f41 : (20 ≤ τ14.1 0 12) = False := eq_false c39
          refine nE_iconst (v := 1) dX9_plan_76 (by decide) ?_
          refine nE_goto (tgt := 81) dX9_plan_77 (by decide) ?_
          exact nh_topi (show ((if ¬ (20 ≤ τ14.1 0 12) then 1 else 0) : Int32) = 1 from by simp only [if_true, if_false, not_true_eq_false, not_false_eq_true, true_and, and_true, false_and, and_false, true_or, or_true, false_or, or_false, if_pos, if_neg, ite_true, ite_false, f41]) j38
set_option maxRecDepth 20000 in
theorem sg_X9_plan_135 (x1 : Int32) (x2 : Int32) (x3 : Int32) (x4 : Int32) {σ : nh_S} {Q : Option Value → nh_S → Prop} (h : (20 + (σ.1 0 12) ≤ x4 → ((¬ (σ.1 0 20 = 0) → (nh_E kX9_takeEnd 0 [some (.ref 0)] [] σ (nh_qv fun τ3 => nh_E kX9_plan 22 [some (.ref 0), none, none, none, none] [] τ3 Q))) ∧ (σ.1 0 20 = 0 → (nh_E kX9_want 0 [some (.ref 0), some (.int (if x3 = 0 then 1 else 0)), some (.int 4), some (.int (σ.1 0 18))] [] σ (nh_qi fun r7 τ6 => (r7 = 0 → (nh_E kX9_takeEnd 0 [some (.ref 0)] [] τ6 (nh_qv fun τ10 => nh_E kX9_plan 22 [some (.ref 0), none, none, none, none] [] τ10 Q))) ∧ (¬ (r7 = 0) → ((vp_in (20 + (τ6.1 0 12)) 40) ∧ nh_E kX9_takeEnd 0 [some (.ref 0)] [] (nh_si (nh_wa (nh_wa τ6 10 ((20 + (τ6.1 0 12)).toNatClampNeg) x1) 11 ((20 + (τ6.1 0 12)).toNatClampNeg) x2) 0 12 ((τ6.1 0 12) + 1)) (nh_qv fun τ14 => nh_E kX9_plan 22 [some (.ref 0), none, none, none, none] [] τ14 Q)))))))) ∧ (¬ (20 + (σ.1 0 12) ≤ x4) → ((((x3 = 0) → (vp_in x4 40))) ∧ nh_E kX9_plan 135 [some (.ref 0), some (.int x1), some (.int x2), some (.int (if ¬ (x3 = 0) ∨ (σ.2.1 11 x4.toNatClampNeg = x2) then 1 else 0)), some (.int (x4 + 1))] [] σ Q))) : nh_E kX9_plan 135 [some (.ref 0), some (.int x1), some (.int x2), some (.int x3), some (.int x4)] [] σ Q := by
  refine nE_iload dX9_plan_135 rfl ?_
  refine nE_bipush (v := 20) dX9_plan_137 (by decide) ?_
  refine nE_aload_n dX9_plan_139 rfl rfl ?_
  refine nE_getI fl_X9_186 sR_0 rfl dX9_plan_140 ?_
  refine nE_iadd dX9_plan_143 ?_
  refine nE_icmp_ge (tgt := 174) dX9_plan_144 (by decide) ⟨fun c1 => ?_, fun c1 => ?_⟩
  · have h := h.1 c1
    refine nE_aload_n dX9_plan_174 rfl rfl ?_
    refine nE_getI fl_X9_109 sR_0 rfl dX9_plan_175 ?_
    refine nE_if_ne (tgt := 238) dX9_plan_178 (by decide) ⟨fun c2 => ?_, fun c2 => ?_⟩
    · have h := h.1 c2
      refine nE_aload_n dX9_plan_238 rfl rfl ?_
      refine nE_callV (As := []) yf_X9_takeEnd ⟨by decide, by decide⟩ rfl rfl sR_0 rfl vl_X9_164 dX9_plan_239 rfl rfl (Nat.le_of_ble_eq_true rfl) (Nat.le_of_ble_eq_true rfl) (nE_mono (fun z5 τ3 h => ?_) h)
      obtain ⟨rfl, h⟩ := h
      refine nE_goto (tgt := 22) dX9_plan_242 (by decide) ?_
      refine nE_weak 1 ?_
      refine nE_weak 2 ?_
      refine nE_weak 3 ?_
      refine nE_weak 4 ?_
      exact h
    · have h := h.2 c2
      refine nE_aload_n dX9_plan_181 rfl rfl ?_
      refine nE_iload_n dX9_plan_182 rfl rfl ?_
      have j17 : nh_E kX9_plan 191 [some (.ref 0), some (.int x1), some (.int x2), some (.int x3), some (.int x4)] [.int (if x3 = 0 then 1 else 0), .ref 0] σ Q := by
        refine nE_iconst (v := 4) dX9_plan_191 (by decide) ?_
        refine nE_aload_n dX9_plan_192 rfl rfl ?_
        refine nE_getI fl_X9_116 sR_0 rfl dX9_plan_193 ?_
        refine nE_callV (As := [.int (if x3 = 0 then 1 else 0), .int 4, .int (σ.1 0 18)]) yf_X9_want ⟨by decide, by decide⟩ rfl rfl sR_0 rfl vl_X9_130 dX9_plan_196 rfl rfl (Nat.le_of_ble_eq_true rfl) (Nat.le_of_ble_eq_true rfl) (nE_mono (fun z8 τ6 h => ?_) h)
        obtain ⟨r7, rfl, h⟩ := h
        refine nE_if_eq (tgt := 238) dX9_plan_199 (by decide) ⟨fun c9 => ?_, fun c9 => ?_⟩
        · have h := h.1 c9
          refine nE_aload_n dX9_plan_238 rfl rfl ?_
          refine nE_callV (As := []) yf_X9_takeEnd ⟨by decide, by decide⟩ rfl rfl sR_0 rfl vl_X9_164 dX9_plan_239 rfl rfl (Nat.le_of_ble_eq_true rfl) (Nat.le_of_ble_eq_true rfl) (nE_mono (fun z12 τ10 h => ?_) h)
          obtain ⟨rfl, h⟩ := h
          refine nE_goto (tgt := 22) dX9_plan_242 (by decide) ?_
          refine nE_weak 1 ?_
          refine nE_weak 2 ?_
          refine nE_weak 3 ?_
          refine nE_weak 4 ?_
          exact h
        · have h := h.2 c9
          refine nE_aload_n dX9_plan_202 rfl rfl ?_
          refine nE_getC fl_X9_38 sR_0 rfl dX9_plan_203 ?_
          refine nE_bipush (v := 20) dX9_plan_206 (by decide) ?_
          refine nE_aload_n dX9_plan_208 rfl rfl ?_
          refine nE_getI fl_X9_186 sR_0 rfl dX9_plan_209 ?_
          refine nE_iadd dX9_plan_212 ?_
          refine nE_iload_n dX9_plan_213 rfl rfl ?_
          obtain ⟨g13, h⟩ := h
          refine nG_iast (j := (20 + (τ6.1 0 12)).toNatClampNeg) sR_10 rfl dX9_plan_214 ⟨g13, ?_⟩
          refine nE_aload_n dX9_plan_215 rfl rfl ?_
          refine nE_getC fl_X9_41 sR_0 rfl dX9_plan_216 ?_
          refine nE_bipush (v := 20) dX9_plan_219 (by decide) ?_
          refine nE_aload_n dX9_plan_221 rfl rfl ?_
          refine nE_getI fl_X9_186 sR_0 rfl dX9_plan_222 ?_
          refine nE_iadd dX9_plan_225 ?_
          refine nE_iload_n dX9_plan_226 rfl rfl ?_
          refine nG_iast (j := (20 + (τ6.1 0 12)).toNatClampNeg) sR_11 rfl dX9_plan_227 ⟨g13, ?_⟩
          refine nE_aload_n dX9_plan_228 rfl rfl ?_
          refine nE_dup dX9_plan_229 rfl ?_
          refine nE_getI fl_X9_186 sR_0 rfl dX9_plan_230 ?_
          refine nE_iconst (v := 1) dX9_plan_233 (by decide) ?_
          refine nE_iadd dX9_plan_234 ?_
          refine nE_putI fl_X9_186 sR_0 rfl ⟨rfl, rfl⟩ dX9_plan_235 ?_
          refine nE_aload_n dX9_plan_238 rfl rfl ?_
          refine nE_callV (As := []) yf_X9_takeEnd ⟨by decide, by decide⟩ rfl rfl sR_0 rfl vl_X9_164 dX9_plan_239 rfl rfl (Nat.le_of_ble_eq_true rfl) (Nat.le_of_ble_eq_true rfl) (nE_mono (fun z16 τ14 h => ?_) h)
          obtain ⟨rfl, h⟩ := h
          refine nE_goto (tgt := 22) dX9_plan_242 (by decide) ?_
          refine nE_weak 1 ?_
          refine nE_weak 2 ?_
          refine nE_weak 3 ?_
          refine nE_weak 4 ?_
          exact h
      refine nE_if_ne (tgt := 190) dX9_plan_183 (by decide) ⟨fun c18 => ?_, fun c18 => ?_⟩
      · skip
        have f19 : (x3 = 0) = False := eq_false c18
        refine nE_iconst (v := 0) dX9_plan_190 (by decide) ?_
        exact nh_topi (show ((if x3 = 0 then 1 else 0) : Int32) = 0 from by simp only [if_true, if_false, not_true_eq_false, not_false_eq_true, true_and, and_true, false_and, and_false, true_or, or_true, false_or, or_false, if_pos, if_neg, ite_true, ite_false, f19]) j17
      · skip
        have f20 : (x3 = 0) = True := eq_true c18
        refine nE_iconst (v := 1) dX9_plan_186 (by decide) ?_
        refine nE_goto (tgt := 191) dX9_plan_187 (by decide) ?_
        exact nh_topi (show ((if x3 = 0 then 1 else 0) : Int32) = 1 from by simp only [if_true, if_false, not_true_eq_false, not_false_eq_true, true_and, and_true, false_and, and_false, true_or, or_true, false_or, or_false, if_pos, if_neg, ite_true, ite_false, f20]) j17
  · have h := h.2 c1
    refine nE_iload_n dX9_plan_147 rfl rfl ?_
    obtain ⟨u22, h⟩ := h
    have j23 : nh_E kX9_plan 167 [some (.ref 0), some (.int x1), some (.int x2), some (.int x3), some (.int x4)] [.int (if ¬ (x3 = 0) ∨ (σ.2.1 11 x4.toNatClampNeg = x2) then 1 else 0)] σ Q := by
      refine nE_istore_n dX9_plan_167 rfl rfl (by decide) ?_
      refine nE_iinc (v := x4 + 1) dX9_plan_168 rfl rfl (by decide) rfl ?_
      refine nE_goto (tgt := 135) dX9_plan_171 (by decide) ?_
      exact h
    have u24 := u22
    refine nE_if_ne (tgt := 162) dX9_plan_148 (by decide) ⟨fun c25 => ?_, fun c25 => ?_⟩
    · skip
      have f26 : (x3 = 0) = False := eq_false c25
      refine nE_iconst (v := 1) dX9_plan_162 (by decide) ?_
      refine nE_goto (tgt := 167) dX9_plan_163 (by decide) ?_
      exact nh_topi (show ((if ¬ (x3 = 0) ∨ (σ.2.1 11 x4.toNatClampNeg = x2) then 1 else 0) : Int32) = 1 from by simp only [if_true, if_false, not_true_eq_false, not_false_eq_true, true_and, and_true, false_and, and_false, true_or, or_true, false_or, or_false, if_pos, if_neg, ite_true, ite_false, f26]) j23
    · skip
      have f27 : (x3 = 0) = True := eq_true c25
      have g21 := (u24 c25)
      refine nE_aload_n dX9_plan_151 rfl rfl ?_
      refine nE_getC fl_X9_41 sR_0 rfl dX9_plan_152 ?_
      refine nE_iload dX9_plan_155 rfl ?_
      refine nG_iald (j := x4.toNatClampNeg) sR_11 rfl dX9_plan_157 ⟨g21, ?_⟩
      refine nE_iload_n dX9_plan_158 rfl rfl ?_
      refine nE_icmp_ne (tgt := 166) dX9_plan_159 (by decide) ⟨fun c28 => ?_, fun c28 => ?_⟩
      · skip
        have f29 : (σ.2.1 11 x4.toNatClampNeg = x2) = False := eq_false c28
        refine nE_iconst (v := 0) dX9_plan_166 (by decide) ?_
        exact nh_topi (show ((if ¬ (x3 = 0) ∨ (σ.2.1 11 x4.toNatClampNeg = x2) then 1 else 0) : Int32) = 0 from by simp only [if_true, if_false, not_true_eq_false, not_false_eq_true, true_and, and_true, false_and, and_false, true_or, or_true, false_or, or_false, if_pos, if_neg, ite_true, ite_false, f27, f29]) j23
      · skip
        have f30 : (σ.2.1 11 x4.toNatClampNeg = x2) = True := eq_true c28
        refine nE_iconst (v := 1) dX9_plan_162 (by decide) ?_
        refine nE_goto (tgt := 167) dX9_plan_163 (by decide) ?_
        exact nh_topi (show ((if ¬ (x3 = 0) ∨ (σ.2.1 11 x4.toNatClampNeg = x2) then 1 else 0) : Int32) = 1 from by simp only [if_true, if_false, not_true_eq_false, not_false_eq_true, true_and, and_true, false_and, and_false, true_or, or_true, false_or, or_false, if_pos, if_neg, ite_true, ite_false, f27, f30]) j23
set_option maxRecDepth 20000 in
theorem sg_X9_plan_267 (x1 : Int32) {σ : nh_S} {Q : Option Value → nh_S → Prop} (h : (σ.1 0 12 ≤ x1 → (Q (some (.int (σ.1 0 12))) (nh_si σ 0 11 (σ.1 0 12)))) ∧ (¬ (σ.1 0 12 ≤ x1) → ((vp_in (20 + x1) 40) ∧ (vp_in x1 40) ∧ nh_E kX9_plan 267 [some (.ref 0), some (.int (x1 + 1)), none, none, none] [] (nh_wa (nh_wa σ 10 x1.toNatClampNeg (σ.2.1 10 ((20 + x1).toNatClampNeg))) 11 x1.toNatClampNeg (σ.2.1 11 ((20 + x1).toNatClampNeg))) Q))) : nh_E kX9_plan 267 [some (.ref 0), some (.int x1), none, none, none] [] σ Q := by
  refine nE_iload_n dX9_plan_267 rfl rfl ?_
  refine nE_aload_n dX9_plan_268 rfl rfl ?_
  refine nE_getI fl_X9_186 sR_0 rfl dX9_plan_269 ?_
  refine nE_icmp_ge (tgt := 311) dX9_plan_272 (by decide) ⟨fun c1 => ?_, fun c1 => ?_⟩
  · have h := h.1 c1
    refine nE_aload_n dX9_plan_311 rfl rfl ?_
    refine nE_aload_n dX9_plan_312 rfl rfl ?_
    refine nE_getI fl_X9_186 sR_0 rfl dX9_plan_313 ?_
    refine nE_putI fl_X9_173 sR_0 rfl ⟨rfl, rfl⟩ dX9_plan_316 ?_
    refine nE_aload_n dX9_plan_319 rfl rfl ?_
    refine nE_getI fl_X9_173 sR_0 rfl dX9_plan_320 ?_
    exact nE_iret dX9_plan_323 rfl h
  · have h := h.2 c1
    refine nE_aload_n dX9_plan_275 rfl rfl ?_
    refine nE_getC fl_X9_38 sR_0 rfl dX9_plan_276 ?_
    refine nE_iload_n dX9_plan_279 rfl rfl ?_
    refine nE_aload_n dX9_plan_280 rfl rfl ?_
    refine nE_getC fl_X9_38 sR_0 rfl dX9_plan_281 ?_
    refine nE_bipush (v := 20) dX9_plan_284 (by decide) ?_
    refine nE_iload_n dX9_plan_286 rfl rfl ?_
    refine nE_iadd dX9_plan_287 ?_
    obtain ⟨g2, h⟩ := h
    refine nG_iald (j := (20 + x1).toNatClampNeg) sR_10 rfl dX9_plan_288 ⟨g2, ?_⟩
    obtain ⟨g3, h⟩ := h
    refine nG_iast (j := x1.toNatClampNeg) sR_10 rfl dX9_plan_289 ⟨g3, ?_⟩
    refine nE_aload_n dX9_plan_290 rfl rfl ?_
    refine nE_getC fl_X9_41 sR_0 rfl dX9_plan_291 ?_
    refine nE_iload_n dX9_plan_294 rfl rfl ?_
    refine nE_aload_n dX9_plan_295 rfl rfl ?_
    refine nE_getC fl_X9_41 sR_0 rfl dX9_plan_296 ?_
    refine nE_bipush (v := 20) dX9_plan_299 (by decide) ?_
    refine nE_iload_n dX9_plan_301 rfl rfl ?_
    refine nE_iadd dX9_plan_302 ?_
    refine nG_iald (j := (20 + x1).toNatClampNeg) sR_11 rfl dX9_plan_303 ⟨g2, ?_⟩
    refine nG_iast (j := x1.toNatClampNeg) sR_11 rfl dX9_plan_304 ⟨g3, ?_⟩
    refine nE_iinc (v := x1 + 1) dX9_plan_305 rfl rfl (by decide) rfl ?_
    refine nE_goto (tgt := 267) dX9_plan_308 (by decide) ?_
    exact h
set_option maxRecDepth 20000 in
theorem sg_X9_fault_0  {σ : nh_S} {Q : Option Value → nh_S → Prop} (h : Q (some (.int (σ.1 0 21))) σ) : nh_E kX9_fault 0 [some (.ref 0)] [] σ Q := by
  refine nE_aload_n dX9_fault_0 rfl rfl ?_
  refine nE_getI fl_X9_50 sR_0 rfl dX9_fault_1 ?_
  exact nE_iret dX9_fault_4 rfl h
set_option maxRecDepth 20000 in
theorem sg_X9_findFar_0  {σ : nh_S} {Q : Option Value → nh_S → Prop} (h : nh_E kX9_findFar 2 [some (.ref 0), some (.int 0), none, none] [] σ Q) : nh_E kX9_findFar 0 [some (.ref 0), none, none, none] [] σ Q := by
  refine nE_iconst (v := 0) dX9_findFar_0 (by decide) ?_
  refine nE_istore_n dX9_findFar_1 rfl rfl (by decide) ?_
  exact h
set_option maxRecDepth 20000 in
theorem sg_X9_findFar_2 (x1 : Int32) {σ : nh_S} {Q : Option Value → nh_S → Prop} (h : (81 ≤ x1 → (nh_E kX9_findFar 58 [some (.ref 0), some (.int 0), none, none] [] σ Q)) ∧ (¬ (81 ≤ x1) → (((¬ (x1 / 9 = x1 - x1 / 9 * 9) → (vp_in x1 162))) ∧ (vp_in x1 81) ∧ nh_E kX9_findFar 2 [some (.ref 0), some (.int (x1 + 1)), none, none] [] (nh_wa σ 14 x1.toNatClampNeg (if x1 / 9 = x1 - x1 / 9 * 9 then 0 else (if σ.2.1 4 x1.toNatClampNeg ≤ 0 then 500 else σ.2.1 4 x1.toNatClampNeg))) Q))) : nh_E kX9_findFar 2 [some (.ref 0), some (.int x1), none, none] [] σ Q := by
  refine nE_iload_n dX9_findFar_2 rfl rfl ?_
  refine nE_bipush (v := 81) dX9_findFar_3 (by decide) ?_
  refine nE_icmp_ge (tgt := 56) dX9_findFar_5 (by decide) ⟨fun c1 => ?_, fun c1 => ?_⟩
  · have h := h.1 c1
    refine nE_iconst (v := 0) dX9_findFar_56 (by decide) ?_
    refine nE_istore_n dX9_findFar_57 rfl rfl (by decide) ?_
    exact h
  · have h := h.2 c1
    refine nE_aload_n dX9_findFar_8 rfl rfl ?_
    refine nE_getC fl_X9_54 sR_0 rfl dX9_findFar_9 ?_
    refine nE_iload_n dX9_findFar_12 rfl rfl ?_
    refine nE_iload_n dX9_findFar_13 rfl rfl ?_
    refine nE_bipush (v := 9) dX9_findFar_14 (by decide) ?_
    refine nE_idiv dX9_findFar_16 (by decide) ?_
    refine nE_iload_n dX9_findFar_17 rfl rfl ?_
    refine nE_bipush (v := 9) dX9_findFar_18 (by decide) ?_
    refine nE_irem dX9_findFar_20 (by decide) ?_
    obtain ⟨u3, h⟩ := h
    have j5 : nh_E kX9_findFar 49 [some (.ref 0), some (.int x1), none, none] [.int (if x1 / 9 = x1 - x1 / 9 * 9 then 0 else (if σ.2.1 4 x1.toNatClampNeg ≤ 0 then 500 else σ.2.1 4 x1.toNatClampNeg)), .int x1, .ref 14] σ Q := by
      obtain ⟨g4, h⟩ := h
      refine nG_iast (j := x1.toNatClampNeg) sR_14 rfl dX9_findFar_49 ⟨g4, ?_⟩
      refine nE_iinc (v := x1 + 1) dX9_findFar_50 rfl rfl (by decide) rfl ?_
      refine nE_goto (tgt := 2) dX9_findFar_53 (by decide) ?_
      exact h
    have u6 := u3
    refine nE_icmp_ne (tgt := 28) dX9_findFar_21 (by decide) ⟨fun c7 => ?_, fun c7 => ?_⟩
    · skip
      have f8 : (x1 / 9 = x1 - x1 / 9 * 9) = False := eq_false c7
      have g2 := (u6 c7)
      refine nE_aload_n dX9_findFar_28 rfl rfl ?_
      refine nE_getC fl_X9_20 sR_0 rfl dX9_findFar_29 ?_
      refine nE_iload_n dX9_findFar_32 rfl rfl ?_
      refine nG_iald (j := x1.toNatClampNeg) sR_4 rfl dX9_findFar_33 ⟨g2, ?_⟩
      refine nE_if_le (tgt := 46) dX9_findFar_34 (by decide) ⟨fun c9 => ?_, fun c9 => ?_⟩
      · skip
        have f10 : (σ.2.1 4 x1.toNatClampNeg ≤ 0) = True := eq_true c9
        refine nE_sipush (v := 500) dX9_findFar_46 (by decide) ?_
        exact nh_topi (show ((if x1 / 9 = x1 - x1 / 9 * 9 then 0 else (if σ.2.1 4 x1.toNatClampNeg ≤ 0 then 500 else σ.2.1 4 x1.toNatClampNeg)) : Int32) = 500 from by simp only [if_true, if_false, not_true_eq_false, not_false_eq_true, true_and, and_true, false_and, and_false, true_or, or_true, false_or, or_false, if_pos, if_neg, ite_true, ite_false, f8, f10]) j5
      · skip
        have f11 : (σ.2.1 4 x1.toNatClampNeg ≤ 0) = False := eq_false c9
        refine nE_aload_n dX9_findFar_37 rfl rfl ?_
        refine nE_getC fl_X9_20 sR_0 rfl dX9_findFar_38 ?_
        refine nE_iload_n dX9_findFar_41 rfl rfl ?_
        refine nG_iald (j := x1.toNatClampNeg) sR_4 rfl dX9_findFar_42 ⟨g2, ?_⟩
        refine nE_goto (tgt := 49) dX9_findFar_43 (by decide) ?_
        exact nh_topi (show ((if x1 / 9 = x1 - x1 / 9 * 9 then 0 else (if σ.2.1 4 x1.toNatClampNeg ≤ 0 then 500 else σ.2.1 4 x1.toNatClampNeg)) : Int32) = σ.2.1 4 x1.toNatClampNeg from by simp only [if_true, if_false, not_true_eq_false, not_false_eq_true, true_and, and_true, false_and, and_false, true_or, or_true, false_or, or_false, if_pos, if_neg, ite_true, ite_false, f8, f11]) j5
    · skip
      have f12 : (x1 / 9 = x1 - x1 / 9 * 9) = True := eq_true c7
      refine nE_iconst (v := 0) dX9_findFar_24 (by decide) ?_
      refine nE_goto (tgt := 49) dX9_findFar_25 (by decide) ?_
      exact nh_topi (show ((if x1 / 9 = x1 - x1 / 9 * 9 then 0 else (if σ.2.1 4 x1.toNatClampNeg ≤ 0 then 500 else σ.2.1 4 x1.toNatClampNeg)) : Int32) = 0 from by simp only [if_true, if_false, not_true_eq_false, not_false_eq_true, true_and, and_true, false_and, and_false, true_or, or_true, false_or, or_false, if_pos, if_neg, ite_true, ite_false, f12]) j5
set_option maxRecDepth 20000 in
theorem sg_X9_findFar_58 (x1 : Int32) {σ : nh_S} {Q : Option Value → nh_S → Prop} (h : (9 ≤ x1 → (Q none σ)) ∧ (¬ (9 ≤ x1) → (nh_E kX9_findFar 66 [some (.ref 0), some (.int x1), some (.int 0), none] [] σ Q))) : nh_E kX9_findFar 58 [some (.ref 0), some (.int x1), none, none] [] σ Q := by
  refine nE_iload_n dX9_findFar_58 rfl rfl ?_
  refine nE_bipush (v := 9) dX9_findFar_59 (by decide) ?_
  refine nE_icmp_ge (tgt := 140) dX9_findFar_61 (by decide) ⟨fun c1 => ?_, fun c1 => ?_⟩
  · have h := h.1 c1
    exact nE_vret dX9_findFar_140 rfl h
  · have h := h.2 c1
    refine nE_iconst (v := 0) dX9_findFar_64 (by decide) ?_
    refine nE_istore_n dX9_findFar_65 rfl rfl (by decide) ?_
    exact h
set_option maxRecDepth 20000 in
theorem sg_X9_findFar_66 (x1 : Int32) (x2 : Int32) {σ : nh_S} {Q : Option Value → nh_S → Prop} (h : (81 ≤ x2 → (nh_E kX9_findFar 58 [some (.ref 0), some (.int (x1 + 1)), none, none] [] σ Q)) ∧ (¬ (81 ≤ x2) → ((vp_in (((x2 / 9) * 9) + x1) 81) ∧ (vp_in ((9 * x1) + (x2 - x2 / 9 * 9)) 81) ∧ (vp_in x2 81) ∧ nh_E kX9_findFar 66 [some (.ref 0), some (.int x1), some (.int (x2 + 1)), none] [] (nh_wa σ 14 x2.toNatClampNeg (if σ.2.1 14 x2.toNatClampNeg ≤ (σ.2.1 14 ((((x2 / 9) * 9) + x1).toNatClampNeg)) + (σ.2.1 14 (((9 * x1) + (x2 - x2 / 9 * 9)).toNatClampNeg)) then σ.2.1 14 x2.toNatClampNeg else (σ.2.1 14 ((((x2 / 9) * 9) + x1).toNatClampNeg)) + (σ.2.1 14 (((9 * x1) + (x2 - x2 / 9 * 9)).toNatClampNeg)))) Q))) : nh_E kX9_findFar 66 [some (.ref 0), some (.int x1), some (.int x2), none] [] σ Q := by
  refine nE_iload_n dX9_findFar_66 rfl rfl ?_
  refine nE_bipush (v := 81) dX9_findFar_67 (by decide) ?_
  refine nE_icmp_ge (tgt := 134) dX9_findFar_69 (by decide) ⟨fun c1 => ?_, fun c1 => ?_⟩
  · have h := h.1 c1
    refine nE_iinc (v := x1 + 1) dX9_findFar_134 rfl rfl (by decide) rfl ?_
    refine nE_goto (tgt := 58) dX9_findFar_137 (by decide) ?_
    refine nE_weak 2 ?_
    exact h
  · have h := h.2 c1
    refine nE_aload_n dX9_findFar_72 rfl rfl ?_
    refine nE_getC fl_X9_54 sR_0 rfl dX9_findFar_73 ?_
    refine nE_iload_n dX9_findFar_76 rfl rfl ?_
    refine nE_bipush (v := 9) dX9_findFar_77 (by decide) ?_
    refine nE_idiv dX9_findFar_79 (by decide) ?_
    refine nE_bipush (v := 9) dX9_findFar_80 (by decide) ?_
    refine nE_imul dX9_findFar_82 ?_
    refine nE_iload_n dX9_findFar_83 rfl rfl ?_
    refine nE_iadd dX9_findFar_84 ?_
    obtain ⟨g2, h⟩ := h
    refine nG_iald (j := (((x2 / 9) * 9) + x1).toNatClampNeg) sR_14 rfl dX9_findFar_85 ⟨g2, ?_⟩
    refine nE_aload_n dX9_findFar_86 rfl rfl ?_
    refine nE_getC fl_X9_54 sR_0 rfl dX9_findFar_87 ?_
    refine nE_bipush (v := 9) dX9_findFar_90 (by decide) ?_
    refine nE_iload_n dX9_findFar_92 rfl rfl ?_
    refine nE_imul dX9_findFar_93 ?_
    refine nE_iload_n dX9_findFar_94 rfl rfl ?_
    refine nE_bipush (v := 9) dX9_findFar_95 (by decide) ?_
    refine nE_irem dX9_findFar_97 (by decide) ?_
    refine nE_iadd dX9_findFar_98 ?_
    obtain ⟨g3, h⟩ := h
    refine nG_iald (j := ((9 * x1) + (x2 - x2 / 9 * 9)).toNatClampNeg) sR_14 rfl dX9_findFar_99 ⟨g3, ?_⟩
    refine nE_iadd dX9_findFar_100 ?_
    refine nE_istore_n dX9_findFar_101 rfl rfl (by decide) ?_
    refine nE_aload_n dX9_findFar_102 rfl rfl ?_
    refine nE_getC fl_X9_54 sR_0 rfl dX9_findFar_103 ?_
    refine nE_iload_n dX9_findFar_106 rfl rfl ?_
    refine nE_iload_n dX9_findFar_107 rfl rfl ?_
    refine nE_aload_n dX9_findFar_108 rfl rfl ?_
    refine nE_getC fl_X9_54 sR_0 rfl dX9_findFar_109 ?_
    refine nE_iload_n dX9_findFar_112 rfl rfl ?_
    obtain ⟨g4, h⟩ := h
    refine nG_iald (j := x2.toNatClampNeg) sR_14 rfl dX9_findFar_113 ⟨g4, ?_⟩
    have j5 : nh_E kX9_findFar 127 [some (.ref 0), some (.int x1), some (.int x2), some (.int ((σ.2.1 14 ((((x2 / 9) * 9) + x1).toNatClampNeg)) + (σ.2.1 14 (((9 * x1) + (x2 - x2 / 9 * 9)).toNatClampNeg))))] [.int (if σ.2.1 14 x2.toNatClampNeg ≤ (σ.2.1 14 ((((x2 / 9) * 9) + x1).toNatClampNeg)) + (σ.2.1 14 (((9 * x1) + (x2 - x2 / 9 * 9)).toNatClampNeg)) then σ.2.1 14 x2.toNatClampNeg else (σ.2.1 14 ((((x2 / 9) * 9) + x1).toNatClampNeg)) + (σ.2.1 14 (((9 * x1) + (x2 - x2 / 9 * 9)).toNatClampNeg))), .int x2, .ref 14] σ Q := by
      refine nG_iast (j := x2.toNatClampNeg) sR_14 rfl dX9_findFar_127 ⟨g4, ?_⟩
      refine nE_iinc (v := x2 + 1) dX9_findFar_128 rfl rfl (by decide) rfl ?_
      refine nE_goto (tgt := 66) dX9_findFar_131 (by decide) ?_
      refine nE_weak 3 ?_
      exact h
    refine nE_icmp_ge (tgt := 121) dX9_findFar_114 (by decide) ⟨fun c6 => ?_, fun c6 => ?_⟩
    · skip
      have f7 : (σ.2.1 14 x2.toNatClampNeg ≤ (σ.2.1 14 ((((x2 / 9) * 9) + x1).toNatClampNeg)) + (σ.2.1 14 (((9 * x1) + (x2 - x2 / 9 * 9)).toNatClampNeg))) = True := eq_true c6
      refine nE_aload_n dX9_findFar_121 rfl rfl ?_
      refine nE_getC fl_X9_54 sR_0 rfl dX9_findFar_122 ?_
      refine nE_iload_n dX9_findFar_125 rfl rfl ?_
      refine nG_iald (j := x2.toNatClampNeg) sR_14 rfl dX9_findFar_126 ⟨g4, ?_⟩
      exact nh_topi (show ((if σ.2.1 14 x2.toNatClampNeg ≤ (σ.2.1 14 ((((x2 / 9) * 9) + x1).toNatClampNeg)) + (σ.2.1 14 (((9 * x1) + (x2 - x2 / 9 * 9)).toNatClampNeg)) then σ.2.1 14 x2.toNatClampNeg else (σ.2.1 14 ((((x2 / 9) * 9) + x1).toNatClampNeg)) + (σ.2.1 14 (((9 * x1) + (x2 - x2 / 9 * 9)).toNatClampNeg))) : Int32) = σ.2.1 14 x2.toNatClampNeg from by simp only [if_true, if_false, not_true_eq_false, not_false_eq_true, true_and, and_true, false_and, and_false, true_or, or_true, false_or, or_false, if_pos, if_neg, ite_true, ite_false, f7]) j5
    · skip
      have f8 : (σ.2.1 14 x2.toNatClampNeg ≤ (σ.2.1 14 ((((x2 / 9) * 9) + x1).toNatClampNeg)) + (σ.2.1 14 (((9 * x1) + (x2 - x2 / 9 * 9)).toNatClampNeg))) = False := eq_false c6
      refine nE_iload_n dX9_findFar_117 rfl rfl ?_
      refine nE_goto (tgt := 127) dX9_findFar_118 (by decide) ?_
      exact nh_topi (show ((if σ.2.1 14 x2.toNatClampNeg ≤ (σ.2.1 14 ((((x2 / 9) * 9) + x1).toNatClampNeg)) + (σ.2.1 14 (((9 * x1) + (x2 - x2 / 9 * 9)).toNatClampNeg)) then σ.2.1 14 x2.toNatClampNeg else (σ.2.1 14 ((((x2 / 9) * 9) + x1).toNatClampNeg)) + (σ.2.1 14 (((9 * x1) + (x2 - x2 / 9 * 9)).toNatClampNeg))) : Int32) = (σ.2.1 14 ((((x2 / 9) * 9) + x1).toNatClampNeg)) + (σ.2.1 14 (((9 * x1) + (x2 - x2 / 9 * 9)).toNatClampNeg)) from by simp only [if_true, if_false, not_true_eq_false, not_false_eq_true, true_and, and_true, false_and, and_false, true_or, or_true, false_or, or_false, if_pos, if_neg, ite_true, ite_false, f8]) j5
set_option maxRecDepth 20000 in
theorem sg_X9_told_0 (x1 : Int32) {σ : nh_S} {Q : Option Value → nh_S → Prop} (h : (x1 = 0 → (Q (some (.int (σ.2.1 9 0))) σ)) ∧ (x1 = 1 → (Q (some (.int (σ.2.1 9 1))) σ)) ∧ (x1 = 2 → (Q (some (.int (σ.1 0 11))) σ)) ∧ (x1 = 3 → (Q (some (.int (σ.1 0 16))) σ)) ∧ (x1 = 4 → (Q (some (.int (σ.2.1 1 24))) σ)) ∧ (x1 = 5 → (Q (some (.int (σ.1 0 14))) σ)) ∧ (x1 = 6 → (nh_E kX9_ones 0 [some (.int (σ.1 0 37)), none, none] [] σ (nh_qi fun r9 τ8 => Q (some (.int r9)) τ8))) ∧ ((¬ x1 = 0 ∧ ¬ x1 = 1 ∧ ¬ x1 = 2 ∧ ¬ x1 = 3 ∧ ¬ x1 = 4 ∧ ¬ x1 = 5 ∧ ¬ x1 = 6) → (Q (some (.int (-1000002))) σ))) : nh_E kX9_told 0 [some (.ref 0), some (.int x1)] [] σ Q := by
  refine nE_iload_n dX9_told_0 rfl rfl ?_
  by_cases c1 : x1 = 0
  · have h := h.1 c1
    refine nE_tabIn (off := 43) (tgt := 44) dX9_told_1 (by rw [c1]; decide) (by rw [c1]; decide) (by rw [c1]; rfl) (by decide) ?_
    refine nE_aload_n dX9_told_44 rfl rfl ?_
    refine nE_getC fl_X9_35 sR_0 rfl dX9_told_45 ?_
    refine nE_iconst (v := 0) dX9_told_48 (by decide) ?_
    refine nG_iald (j := 0) sR_9 (by decide) dX9_told_49 ⟨(nh_vi (by decide)), ?_⟩
    exact nE_iret dX9_told_50 rfl h
  replace h := h.2
  by_cases c2 : x1 = 1
  · have h := h.1 c2
    refine nE_tabIn (off := 50) (tgt := 51) dX9_told_1 (by rw [c2]; decide) (by rw [c2]; decide) (by rw [c2]; rfl) (by decide) ?_
    refine nE_aload_n dX9_told_51 rfl rfl ?_
    refine nE_getC fl_X9_35 sR_0 rfl dX9_told_52 ?_
    refine nE_iconst (v := 1) dX9_told_55 (by decide) ?_
    refine nG_iald (j := 1) sR_9 (by decide) dX9_told_56 ⟨(nh_vi (by decide)), ?_⟩
    exact nE_iret dX9_told_57 rfl h
  replace h := h.2
  by_cases c3 : x1 = 2
  · have h := h.1 c3
    refine nE_tabIn (off := 57) (tgt := 58) dX9_told_1 (by rw [c3]; decide) (by rw [c3]; decide) (by rw [c3]; rfl) (by decide) ?_
    refine nE_aload_n dX9_told_58 rfl rfl ?_
    refine nE_getI fl_X9_173 sR_0 rfl dX9_told_59 ?_
    exact nE_iret dX9_told_62 rfl h
  replace h := h.2
  by_cases c4 : x1 = 3
  · have h := h.1 c4
    refine nE_tabIn (off := 62) (tgt := 63) dX9_told_1 (by rw [c4]; decide) (by rw [c4]; decide) (by rw [c4]; rfl) (by decide) ?_
    refine nE_aload_n dX9_told_63 rfl rfl ?_
    refine nE_getI fl_X9_100 sR_0 rfl dX9_told_64 ?_
    exact nE_iret dX9_told_67 rfl h
  replace h := h.2
  by_cases c5 : x1 = 4
  · have h := h.1 c5
    refine nE_tabIn (off := 67) (tgt := 68) dX9_told_1 (by rw [c5]; decide) (by rw [c5]; decide) (by rw [c5]; rfl) (by decide) ?_
    refine nE_aload_n dX9_told_68 rfl rfl ?_
    refine nE_getC fl_X9_7 sR_0 rfl dX9_told_69 ?_
    refine nE_bipush (v := 24) dX9_told_72 (by decide) ?_
    refine nG_iald (j := 24) sR_1 (by decide) dX9_told_74 ⟨(nh_vi (by decide)), ?_⟩
    exact nE_iret dX9_told_75 rfl h
  replace h := h.2
  by_cases c6 : x1 = 5
  · have h := h.1 c6
    refine nE_tabIn (off := 75) (tgt := 76) dX9_told_1 (by rw [c6]; decide) (by rw [c6]; decide) (by rw [c6]; rfl) (by decide) ?_
    refine nE_aload_n dX9_told_76 rfl rfl ?_
    refine nE_getI fl_X9_176 sR_0 rfl dX9_told_77 ?_
    exact nE_iret dX9_told_80 rfl h
  replace h := h.2
  by_cases c7 : x1 = 6
  · have h := h.1 c7
    refine nE_tabIn (off := 80) (tgt := 81) dX9_told_1 (by rw [c7]; decide) (by rw [c7]; decide) (by rw [c7]; rfl) (by decide) ?_
    refine nE_aload_n dX9_told_81 rfl rfl ?_
    refine nE_getI fl_X9_179 sR_0 rfl dX9_told_82 ?_
    refine nE_callS (As := [.int (σ.1 0 37)]) yf_X9_ones ⟨by decide, by decide⟩ rfl sl_X9_189 dX9_told_85 rfl rfl (Nat.le_of_ble_eq_true rfl) (Nat.le_of_ble_eq_true rfl) (nE_mono (fun z10 τ8 h => ?_) h)
    obtain ⟨r9, rfl, h⟩ := h
    exact nE_iret dX9_told_88 rfl h
  replace h := h.2
  have h := h ⟨c1, c2, c3, c4, c5, c6, c7⟩
  refine nE_tabOut (tgt := 89) dX9_told_1 (by have := nh_tk (z := 0) c1 (by decide); have := nh_tk (z := 1) c2 (by decide); have := nh_tk (z := 2) c3 (by decide); have := nh_tk (z := 3) c4 (by decide); have := nh_tk (z := 4) c5 (by decide); have := nh_tk (z := 5) c6 (by decide); have := nh_tk (z := 6) c7 (by decide); omega) (by decide) ?_
  refine nE_ldc kc_X9_99 dX9_told_89 ?_
  exact nE_iret dX9_told_91 rfl h
set_option maxRecDepth 20000 in
theorem sg_X9_partsAt_0 (x1 : Int32) {σ : nh_S} {Q : Option Value → nh_S → Prop} (h : nh_E kX9_partsAt 4 [some (.ref 0), some (.int x1), some (.int 0), some (.int 0)] [] σ Q) : nh_E kX9_partsAt 0 [some (.ref 0), some (.int x1), none, none] [] σ Q := by
  refine nE_iconst (v := 0) dX9_partsAt_0 (by decide) ?_
  refine nE_istore_n dX9_partsAt_1 rfl rfl (by decide) ?_
  refine nE_iconst (v := 0) dX9_partsAt_2 (by decide) ?_
  refine nE_istore_n dX9_partsAt_3 rfl rfl (by decide) ?_
  exact h
set_option maxRecDepth 20000 in
theorem sg_X9_partsAt_4 (x1 : Int32) (x2 : Int32) (x3 : Int32) {σ : nh_S} {Q : Option Value → nh_S → Prop} (h : (σ.2.1 9 1 ≤ x3 → (Q (some (.int x2)) σ)) ∧ (¬ (σ.2.1 9 1 ≤ x3) → ((vp_in x3 78) ∧ nh_E kX9_partsAt 4 [some (.ref 0), some (.int x1), some (.int (x2 ||| ((if σ.2.1 1 x3.toNatClampNeg = x1 then 1 else 0) <<< (x3 &&& 31)))), some (.int (x3 + 1))] [] σ Q))) : nh_E kX9_partsAt 4 [some (.ref 0), some (.int x1), some (.int x2), some (.int x3)] [] σ Q := by
  refine nE_iload_n dX9_partsAt_4 rfl rfl ?_
  refine nE_aload_n dX9_partsAt_5 rfl rfl ?_
  refine nE_getC fl_X9_35 sR_0 rfl dX9_partsAt_6 ?_
  refine nE_iconst (v := 1) dX9_partsAt_9 (by decide) ?_
  refine nG_iald (j := 1) sR_9 (by decide) dX9_partsAt_10 ⟨(nh_vi (by decide)), ?_⟩
  refine nE_icmp_ge (tgt := 43) dX9_partsAt_11 (by decide) ⟨fun c1 => ?_, fun c1 => ?_⟩
  · have h := h.1 c1
    refine nE_iload_n dX9_partsAt_43 rfl rfl ?_
    exact nE_iret dX9_partsAt_44 rfl h
  · have h := h.2 c1
    refine nE_iload_n dX9_partsAt_14 rfl rfl ?_
    refine nE_aload_n dX9_partsAt_15 rfl rfl ?_
    refine nE_getC fl_X9_7 sR_0 rfl dX9_partsAt_16 ?_
    refine nE_iload_n dX9_partsAt_19 rfl rfl ?_
    obtain ⟨g2, h⟩ := h
    refine nG_iald (j := x3.toNatClampNeg) sR_1 rfl dX9_partsAt_20 ⟨g2, ?_⟩
    refine nE_iload_n dX9_partsAt_21 rfl rfl ?_
    have j3 : nh_E kX9_partsAt 30 [some (.ref 0), some (.int x1), some (.int x2), some (.int x3)] [.int (if σ.2.1 1 x3.toNatClampNeg = x1 then 1 else 0), .int x2] σ Q := by
      refine nE_callS (As := [.int (if σ.2.1 1 x3.toNatClampNeg = x1 then 1 else 0)]) yf_X9_one ⟨by decide, by decide⟩ rfl sl_X9_150 dX9_partsAt_30 rfl rfl (Nat.le_of_ble_eq_true rfl) (Nat.le_of_ble_eq_true rfl) (p_X9_one _ ?_)
      refine nE_iload_n dX9_partsAt_33 rfl rfl ?_
      refine nE_ishl dX9_partsAt_34 ?_
      refine nE_ior dX9_partsAt_35 ?_
      refine nE_istore_n dX9_partsAt_36 rfl rfl (by decide) ?_
      refine nE_iinc (v := x3 + 1) dX9_partsAt_37 rfl rfl (by decide) rfl ?_
      refine nE_goto (tgt := 4) dX9_partsAt_40 (by decide) ?_
      exact h
    refine nE_icmp_ne (tgt := 29) dX9_partsAt_22 (by decide) ⟨fun c4 => ?_, fun c4 => ?_⟩
    · skip
      have f5 : (σ.2.1 1 x3.toNatClampNeg = x1) = False := eq_false c4
      refine nE_iconst (v := 0) dX9_partsAt_29 (by decide) ?_
      exact nh_topi (show ((if σ.2.1 1 x3.toNatClampNeg = x1 then 1 else 0) : Int32) = 0 from by simp only [if_true, if_false, not_true_eq_false, not_false_eq_true, true_and, and_true, false_and, and_false, true_or, or_true, false_or, or_false, if_pos, if_neg, ite_true, ite_false, f5]) j3
    · skip
      have f6 : (σ.2.1 1 x3.toNatClampNeg = x1) = True := eq_true c4
      refine nE_iconst (v := 1) dX9_partsAt_25 (by decide) ?_
      refine nE_goto (tgt := 30) dX9_partsAt_26 (by decide) ?_
      exact nh_topi (show ((if σ.2.1 1 x3.toNatClampNeg = x1 then 1 else 0) : Int32) = 1 from by simp only [if_true, if_false, not_true_eq_false, not_false_eq_true, true_and, and_true, false_and, and_false, true_or, or_true, false_or, or_false, if_pos, if_neg, ite_true, ite_false, f6]) j3
set_option maxRecDepth 20000 in
theorem sg_X9_house_0 (x1 : Int32) (x2 : Int32) {σ : nh_S} {Q : Option Value → nh_S → Prop} (h : (¬ (x1 < 0) ∧ ¬ ((σ.2.1 9 0) - 1 < x1) → ((¬ (¬ (x2 < 0) ∧ ¬ (5 < x2)) → ((¬ (x2 = 6) → (Q (some (.int (-1000002))) σ)) ∧ (x2 = 6 → (nh_E kX9_partsAt 0 [some (.ref 0), some (.int x1), none, none] [] σ (nh_qi fun r5 τ4 => Q (some (.int r5)) τ4))))) ∧ (¬ (x2 < 0) ∧ ¬ (5 < x2) → ((vp_in ((6 * x1) + x2) 108) ∧ Q (some (.int (σ.2.1 3 (((6 * x1) + x2).toNatClampNeg)))) σ)))) ∧ (¬ (¬ (x1 < 0) ∧ ¬ ((σ.2.1 9 0) - 1 < x1)) → (Q (some (.int (-1000001))) σ))) : nh_E kX9_house 0 [some (.ref 0), some (.int x1), some (.int x2)] [] σ Q := by
  refine nE_aload_n dX9_house_0 rfl rfl ?_
  refine nE_iload_n dX9_house_1 rfl rfl ?_
  refine nE_callV (As := [.int x1]) yf_X9_isHouse ⟨by decide, by decide⟩ rfl rfl sR_0 rfl vl_X9_193 dX9_house_2 rfl rfl (Nat.le_of_ble_eq_true rfl) (Nat.le_of_ble_eq_true rfl) (p_X9_isHouse _ ?_)
  refine nE_ifb_ne (tgt := 11) dX9_house_5 (by decide) ⟨fun c1 => ?_, fun c1 => ?_⟩
  · have h := h.1 c1
    refine nE_iload_n dX9_house_11 rfl rfl ?_
    refine nE_i2l dX9_house_12 ?_
    refine nE_lconst (v := 0) dX9_house_13 (by decide) ?_
    refine nE_ldc2 kc_X9_198 dX9_house_14 ?_
    refine nE_callS (As := [.long x2.toInt64, .long 0, .long 5]) yf_X9_in ⟨by decide, by decide⟩ rfl sl_X9_95 dX9_house_17 rfl rfl (Nat.le_of_ble_eq_true rfl) (Nat.le_of_ble_eq_true rfl) (p_X9_in x2 0 5 (by decide) (by decide) ?_)
    refine nE_ifb_eq (tgt := 37) dX9_house_20 (by decide) ⟨fun c2 => ?_, fun c2 => ?_⟩
    · have h := h.1 c2
      refine nE_iload_n dX9_house_37 rfl rfl ?_
      refine nE_bipush (v := 6) dX9_house_38 (by decide) ?_
      refine nE_icmp_ne (tgt := 51) dX9_house_40 (by decide) ⟨fun c3 => ?_, fun c3 => ?_⟩
      · have h := h.1 c3
        refine nE_ldc kc_X9_99 dX9_house_51 ?_
        exact nE_iret dX9_house_53 rfl h
      · have h := h.2 c3
        refine nE_aload_n dX9_house_43 rfl rfl ?_
        refine nE_iload_n dX9_house_44 rfl rfl ?_
        refine nE_callV (As := [.int x1]) yf_X9_partsAt ⟨by decide, by decide⟩ rfl rfl sR_0 rfl vl_X9_200 dX9_house_45 rfl rfl (Nat.le_of_ble_eq_true rfl) (Nat.le_of_ble_eq_true rfl) (nE_mono (fun z6 τ4 h => ?_) h)
        obtain ⟨r5, rfl, h⟩ := h
        refine nE_goto (tgt := 53) dX9_house_48 (by decide) ?_
        exact nE_iret dX9_house_53 rfl h
    · have h := h.2 c2
      refine nE_aload_n dX9_house_23 rfl rfl ?_
      refine nE_getC fl_X9_17 sR_0 rfl dX9_house_24 ?_
      refine nE_bipush (v := 6) dX9_house_27 (by decide) ?_
      refine nE_iload_n dX9_house_29 rfl rfl ?_
      refine nE_imul dX9_house_30 ?_
      refine nE_iload_n dX9_house_31 rfl rfl ?_
      refine nE_iadd dX9_house_32 ?_
      obtain ⟨g7, h⟩ := h
      refine nG_iald (j := ((6 * x1) + x2).toNatClampNeg) sR_3 rfl dX9_house_33 ⟨g7, ?_⟩
      refine nE_goto (tgt := 53) dX9_house_34 (by decide) ?_
      exact nE_iret dX9_house_53 rfl h
  · have h := h.2 c1
    refine nE_ldc kc_X9_197 dX9_house_8 ?_
    exact nE_iret dX9_house_10 rfl h
set_option maxRecDepth 20000 in
theorem sg_X9_far_0 (x1 : Int32) (x2 : Int32) {σ : nh_S} {Q : Option Value → nh_S → Prop} (h : (((¬ (x1 < 0) ∧ ¬ ((σ.2.1 9 0) - 1 < x1)) → ((¬ (x2 < 0) ∧ ¬ ((σ.2.1 9 0) - 1 < x2)) → (vp_in ((9 * x1) + x2) 81)))) ∧ Q (some (.int (if ¬ (x1 < 0) ∧ ¬ ((σ.2.1 9 0) - 1 < x1) then (if ¬ (x2 < 0) ∧ ¬ ((σ.2.1 9 0) - 1 < x2) then σ.2.1 14 (((9 * x1) + x2).toNatClampNeg) else (-1000001)) else (-1000001)))) σ) : nh_E kX9_far 0 [some (.ref 0), some (.int x1), some (.int x2)] [] σ Q := by
  refine nE_aload_n dX9_far_0 rfl rfl ?_
  refine nE_iload_n dX9_far_1 rfl rfl ?_
  refine nE_callV (As := [.int x1]) yf_X9_isHouse ⟨by decide, by decide⟩ rfl rfl sR_0 rfl vl_X9_193 dX9_far_2 rfl rfl (Nat.le_of_ble_eq_true rfl) (Nat.le_of_ble_eq_true rfl) (p_X9_isHouse _ ?_)
  obtain ⟨u2, h⟩ := h
  have j3 : nh_E kX9_far 27 [some (.ref 0), some (.int x1), some (.int x2)] [.int (if ¬ (x1 < 0) ∧ ¬ ((σ.2.1 9 0) - 1 < x1) then (if ¬ (x2 < 0) ∧ ¬ ((σ.2.1 9 0) - 1 < x2) then σ.2.1 14 (((9 * x1) + x2).toNatClampNeg) else (-1000001)) else (-1000001))] σ Q := by
    exact nE_iret dX9_far_27 rfl h
  have u4 := u2
  refine nE_ifb_eq (tgt := 25) dX9_far_5 (by decide) ⟨fun c5 => ?_, fun c5 => ?_⟩
  · skip
    have f6 : (¬ (x1 < 0) ∧ ¬ ((σ.2.1 9 0) - 1 < x1)) = False := eq_false c5
    refine nE_ldc kc_X9_197 dX9_far_25 ?_
    exact nh_topi (show ((if ¬ (x1 < 0) ∧ ¬ ((σ.2.1 9 0) - 1 < x1) then (if ¬ (x2 < 0) ∧ ¬ ((σ.2.1 9 0) - 1 < x2) then σ.2.1 14 (((9 * x1) + x2).toNatClampNeg) else (-1000001)) else (-1000001)) : Int32) = (-1000001) from by simp only [if_true, if_false, not_true_eq_false, not_false_eq_true, true_and, and_true, false_and, and_false, true_or, or_true, false_or, or_false, if_pos, if_neg, ite_true, ite_false, f6]) j3
  · skip
    have f7 : (¬ (x1 < 0) ∧ ¬ ((σ.2.1 9 0) - 1 < x1)) = True := eq_true c5
    have u8 := (u4 c5)
    refine nE_aload_n dX9_far_8 rfl rfl ?_
    refine nE_iload_n dX9_far_9 rfl rfl ?_
    refine nE_callV (As := [.int x2]) yf_X9_isHouse ⟨by decide, by decide⟩ rfl rfl sR_0 rfl vl_X9_193 dX9_far_10 rfl rfl (Nat.le_of_ble_eq_true rfl) (Nat.le_of_ble_eq_true rfl) (p_X9_isHouse _ ?_)
    refine nE_ifb_eq (tgt := 25) dX9_far_13 (by decide) ⟨fun c9 => ?_, fun c9 => ?_⟩
    · skip
      have f10 : (¬ (x2 < 0) ∧ ¬ ((σ.2.1 9 0) - 1 < x2)) = False := eq_false c9
      refine nE_ldc kc_X9_197 dX9_far_25 ?_
      exact nh_topi (show ((if ¬ (x1 < 0) ∧ ¬ ((σ.2.1 9 0) - 1 < x1) then (if ¬ (x2 < 0) ∧ ¬ ((σ.2.1 9 0) - 1 < x2) then σ.2.1 14 (((9 * x1) + x2).toNatClampNeg) else (-1000001)) else (-1000001)) : Int32) = (-1000001) from by simp only [if_true, if_false, not_true_eq_false, not_false_eq_true, true_and, and_true, false_and, and_false, true_or, or_true, false_or, or_false, if_pos, if_neg, ite_true, ite_false, f7, f10]) j3
    · skip
      have f11 : (¬ (x2 < 0) ∧ ¬ ((σ.2.1 9 0) - 1 < x2)) = True := eq_true c9
      have g1 := (u8 c9)
      refine nE_aload_n dX9_far_16 rfl rfl ?_
      refine nE_iload_n dX9_far_17 rfl rfl ?_
      refine nE_iload_n dX9_far_18 rfl rfl ?_
      refine nE_callV (As := [.int x1, .int x2]) yf_X9_farOf ⟨by decide, by decide⟩ rfl rfl sR_0 rfl vl_X9_203 dX9_far_19 rfl rfl (Nat.le_of_ble_eq_true rfl) (Nat.le_of_ble_eq_true rfl) (p_X9_farOf g1 ?_)
      refine nE_goto (tgt := 27) dX9_far_22 (by decide) ?_
      exact nh_topi (show ((if ¬ (x1 < 0) ∧ ¬ ((σ.2.1 9 0) - 1 < x1) then (if ¬ (x2 < 0) ∧ ¬ ((σ.2.1 9 0) - 1 < x2) then σ.2.1 14 (((9 * x1) + x2).toNatClampNeg) else (-1000001)) else (-1000001)) : Int32) = σ.2.1 14 (((9 * x1) + x2).toNatClampNeg) from by simp only [if_true, if_false, not_true_eq_false, not_false_eq_true, true_and, and_true, false_and, and_false, true_or, or_true, false_or, or_false, if_pos, if_neg, ite_true, ite_false, f7, f11]) j3
set_option maxRecDepth 20000 in
theorem sg_X9_part_0 (x1 : Int32) (x2 : Int32) {σ : nh_S} {Q : Option Value → nh_S → Prop} (h : (¬ (x1 < 0) ∧ ¬ ((σ.2.1 9 1) - 1 < x1) → ((x2 = 0 → ((vp_in x1 78) ∧ Q (some (.int (σ.2.1 1 x1.toNatClampNeg))) σ)) ∧ (x2 = 1 → ((vp_in x1 24) ∧ Q (some (.int (σ.2.1 6 x1.toNatClampNeg))) σ)) ∧ (x2 = 2 → ((vp_in x1 24) ∧ Q (some (.int (σ.2.1 7 x1.toNatClampNeg))) σ)) ∧ (x2 = 3 → ((vp_in x1 24) ∧ Q (some (.int (σ.2.1 8 x1.toNatClampNeg))) σ)) ∧ (x2 = 4 → ((vp_in x1 12) ∧ Q (some (.int (σ.2.1 12 x1.toNatClampNeg))) σ)) ∧ (x2 = 5 → ((vp_in (12 + x1) 78) ∧ Q (some (.int (σ.2.1 1 ((12 + x1).toNatClampNeg)))) σ)) ∧ ((¬ x2 = 0 ∧ ¬ x2 = 1 ∧ ¬ x2 = 2 ∧ ¬ x2 = 3 ∧ ¬ x2 = 4 ∧ ¬ x2 = 5) → (Q (some (.int (-1000002))) σ)))) ∧ (¬ (¬ (x1 < 0) ∧ ¬ ((σ.2.1 9 1) - 1 < x1)) → (Q (some (.int (-1000001))) σ))) : nh_E kX9_part 0 [some (.ref 0), some (.int x1), some (.int x2)] [] σ Q := by
  refine nE_aload_n dX9_part_0 rfl rfl ?_
  refine nE_iload_n dX9_part_1 rfl rfl ?_
  refine nE_callV (As := [.int x1]) yf_X9_isPart ⟨by decide, by decide⟩ rfl rfl sR_0 rfl vl_X9_206 dX9_part_2 rfl rfl (Nat.le_of_ble_eq_true rfl) (Nat.le_of_ble_eq_true rfl) (p_X9_isPart _ ?_)
  refine nE_ifb_ne (tgt := 11) dX9_part_5 (by decide) ⟨fun c1 => ?_, fun c1 => ?_⟩
  · have h := h.1 c1
    refine nE_iload_n dX9_part_11 rfl rfl ?_
    by_cases c2 : x2 = 0
    · have h := h.1 c2
      refine nE_tabIn (off := 40) (tgt := 52) dX9_part_12 (by rw [c2]; decide) (by rw [c2]; decide) (by rw [c2]; rfl) (by decide) ?_
      refine nE_aload_n dX9_part_52 rfl rfl ?_
      refine nE_getC fl_X9_7 sR_0 rfl dX9_part_53 ?_
      refine nE_iload_n dX9_part_56 rfl rfl ?_
      obtain ⟨g3, h⟩ := h
      refine nG_iald (j := x1.toNatClampNeg) sR_1 rfl dX9_part_57 ⟨g3, ?_⟩
      exact nE_iret dX9_part_58 rfl h
    replace h := h.2
    by_cases c4 : x2 = 1
    · have h := h.1 c4
      refine nE_tabIn (off := 47) (tgt := 59) dX9_part_12 (by rw [c4]; decide) (by rw [c4]; decide) (by rw [c4]; rfl) (by decide) ?_
      refine nE_aload_n dX9_part_59 rfl rfl ?_
      refine nE_getC fl_X9_26 sR_0 rfl dX9_part_60 ?_
      refine nE_iload_n dX9_part_63 rfl rfl ?_
      obtain ⟨g5, h⟩ := h
      refine nG_iald (j := x1.toNatClampNeg) sR_6 rfl dX9_part_64 ⟨g5, ?_⟩
      exact nE_iret dX9_part_65 rfl h
    replace h := h.2
    by_cases c6 : x2 = 2
    · have h := h.1 c6
      refine nE_tabIn (off := 54) (tgt := 66) dX9_part_12 (by rw [c6]; decide) (by rw [c6]; decide) (by rw [c6]; rfl) (by decide) ?_
      refine nE_aload_n dX9_part_66 rfl rfl ?_
      refine nE_getC fl_X9_29 sR_0 rfl dX9_part_67 ?_
      refine nE_iload_n dX9_part_70 rfl rfl ?_
      obtain ⟨g7, h⟩ := h
      refine nG_iald (j := x1.toNatClampNeg) sR_7 rfl dX9_part_71 ⟨g7, ?_⟩
      exact nE_iret dX9_part_72 rfl h
    replace h := h.2
    by_cases c8 : x2 = 3
    · have h := h.1 c8
      refine nE_tabIn (off := 61) (tgt := 73) dX9_part_12 (by rw [c8]; decide) (by rw [c8]; decide) (by rw [c8]; rfl) (by decide) ?_
      refine nE_aload_n dX9_part_73 rfl rfl ?_
      refine nE_getC fl_X9_32 sR_0 rfl dX9_part_74 ?_
      refine nE_iload_n dX9_part_77 rfl rfl ?_
      obtain ⟨g9, h⟩ := h
      refine nG_iald (j := x1.toNatClampNeg) sR_8 rfl dX9_part_78 ⟨g9, ?_⟩
      exact nE_iret dX9_part_79 rfl h
    replace h := h.2
    by_cases c10 : x2 = 4
    · have h := h.1 c10
      refine nE_tabIn (off := 68) (tgt := 80) dX9_part_12 (by rw [c10]; decide) (by rw [c10]; decide) (by rw [c10]; rfl) (by decide) ?_
      refine nE_aload_n dX9_part_80 rfl rfl ?_
      refine nE_getC fl_X9_44 sR_0 rfl dX9_part_81 ?_
      refine nE_iload_n dX9_part_84 rfl rfl ?_
      obtain ⟨g11, h⟩ := h
      refine nG_iald (j := x1.toNatClampNeg) sR_12 rfl dX9_part_85 ⟨g11, ?_⟩
      exact nE_iret dX9_part_86 rfl h
    replace h := h.2
    by_cases c12 : x2 = 5
    · have h := h.1 c12
      refine nE_tabIn (off := 75) (tgt := 87) dX9_part_12 (by rw [c12]; decide) (by rw [c12]; decide) (by rw [c12]; rfl) (by decide) ?_
      refine nE_aload_n dX9_part_87 rfl rfl ?_
      refine nE_getC fl_X9_7 sR_0 rfl dX9_part_88 ?_
      refine nE_bipush (v := 12) dX9_part_91 (by decide) ?_
      refine nE_iload_n dX9_part_93 rfl rfl ?_
      refine nE_iadd dX9_part_94 ?_
      obtain ⟨g13, h⟩ := h
      refine nG_iald (j := (12 + x1).toNatClampNeg) sR_1 rfl dX9_part_95 ⟨g13, ?_⟩
      exact nE_iret dX9_part_96 rfl h
    replace h := h.2
    have h := h ⟨c2, c4, c6, c8, c10, c12⟩
    refine nE_tabOut (tgt := 97) dX9_part_12 (by have := nh_tk (z := 0) c2 (by decide); have := nh_tk (z := 1) c4 (by decide); have := nh_tk (z := 2) c6 (by decide); have := nh_tk (z := 3) c8 (by decide); have := nh_tk (z := 4) c10 (by decide); have := nh_tk (z := 5) c12 (by decide); omega) (by decide) ?_
    refine nE_ldc kc_X9_99 dX9_part_97 ?_
    exact nE_iret dX9_part_99 rfl h
  · have h := h.2 c1
    refine nE_ldc kc_X9_197 dX9_part_8 ?_
    exact nE_iret dX9_part_10 rfl h
set_option maxRecDepth 20000 in
theorem sg_X9_goRound_0 (x1 : Int32) (x2 : Int32) (x3 : Int32) (x4 : Int32) (x5 : Int32) {σ : nh_S} {Q : Option Value → nh_S → Prop} (h : nh_E kX9_goRound 12 [some (.ref 0), none, none, some (.int x3), some (.int x4), some (.int x5), some (.int x2), some (.int x1), some (.int 0), some (.int 0)] [] σ Q) : nh_E kX9_goRound 0 [some (.ref 0), some (.int x1), some (.int x2), some (.int x3), some (.int x4), some (.int x5), none, none, none, none] [] σ Q := by
  refine nE_iload_n dX9_goRound_0 rfl rfl ?_
  refine nE_istore dX9_goRound_1 rfl (by decide) ?_
  refine nE_iload_n dX9_goRound_3 rfl rfl ?_
  refine nE_istore dX9_goRound_4 rfl (by decide) ?_
  refine nE_iconst (v := 0) dX9_goRound_6 (by decide) ?_
  refine nE_istore dX9_goRound_7 rfl (by decide) ?_
  refine nE_iconst (v := 0) dX9_goRound_9 (by decide) ?_
  refine nE_istore dX9_goRound_10 rfl (by decide) ?_
  refine nE_weak 1 ?_
  refine nE_weak 2 ?_
  exact h
set_option maxRecDepth 20000 in
theorem sg_X9_goRound_12 (x3 : Int32) (x4 : Int32) (x5 : Int32) (x6 : Int32) (x7 : Int32) (x8 : Int32) (x9 : Int32) {σ : nh_S} {Q : Option Value → nh_S → Prop} (h : (σ.1 0 26 ≤ x9 → (nh_E kX9_goRound 125 [some (.ref 0), none, none, some (.int x3), none, none, some (.int x6), some (.int x7), some (.int x8), some (.int 0)] [] σ Q)) ∧ (¬ (σ.1 0 26 ≤ x9) → ((vp_in x9 20) ∧ (vp_in ((9 * x7) + (σ.2.1 17 x9.toNatClampNeg)) 81) ∧ (¬ (¬ (σ.2.1 17 x9.toNatClampNeg = x4) ∧ nh_hs x5 (σ.2.1 17 x9.toNatClampNeg)) → ((σ.2.1 17 x9.toNatClampNeg = x4 → (nh_E kX9_goRound 12 [some (.ref 0), none, none, some (.int x3), some (.int x4), some (.int x5), some (.int (x6 + (σ.2.1 14 (((9 * x7) + (σ.2.1 17 x9.toNatClampNeg)).toNatClampNeg)))), some (.int (σ.2.1 17 x9.toNatClampNeg)), some (.int x8), some (.int (x9 + 1))] [] σ Q)) ∧ (¬ (σ.2.1 17 x9.toNatClampNeg = x4) → ((vp_in (6 * (σ.2.1 17 x9.toNatClampNeg)) 108) ∧ (vp_in (σ.2.1 17 x9.toNatClampNeg) 9) ∧ nh_E kX9_goRound 12 [some (.ref 0), none, none, some (.int x3), some (.int x4), some (.int x5), some (.int (x6 + (σ.2.1 14 (((9 * x7) + (σ.2.1 17 x9.toNatClampNeg)).toNatClampNeg)))), some (.int (σ.2.1 17 x9.toNatClampNeg)), some (.int x8), some (.int (x9 + 1))] [] (nh_wa σ 15 ((σ.2.1 17 x9.toNatClampNeg).toNatClampNeg) ((x6 + (σ.2.1 14 (((9 * x7) + (σ.2.1 17 x9.toNatClampNeg)).toNatClampNeg))) + (σ.2.1 3 ((6 * (σ.2.1 17 x9.toNatClampNeg)).toNatClampNeg)))) Q)))) ∧ (¬ (σ.2.1 17 x9.toNatClampNeg = x4) ∧ nh_hs x5 (σ.2.1 17 x9.toNatClampNeg) → ((vp_in ((6 * (σ.2.1 17 x9.toNatClampNeg)) + 1) 108) ∧ nh_E kX9_goRound 12 [some (.ref 0), none, none, some (.int x3), some (.int x4), some (.int x5), some (.int ((x6 + (σ.2.1 14 (((9 * x7) + (σ.2.1 17 x9.toNatClampNeg)).toNatClampNeg))) + (σ.2.1 3 (((6 * (σ.2.1 17 x9.toNatClampNeg)) + 1).toNatClampNeg)))), some (.int (σ.2.1 17 x9.toNatClampNeg)), some (.int (x8 ||| (1 <<< ((σ.2.1 17 x9.toNatClampNeg) &&& 31)))), some (.int (x9 + 1))] [] σ Q))))) : nh_E kX9_goRound 12 [some (.ref 0), none, none, some (.int x3), some (.int x4), some (.int x5), some (.int x6), some (.int x7), some (.int x8), some (.int x9)] [] σ Q := by
  refine nE_iload dX9_goRound_12 rfl ?_
  refine nE_aload_n dX9_goRound_14 rfl rfl ?_
  refine nE_getI fl_X9_209 sR_0 rfl dX9_goRound_15 ?_
  refine nE_icmp_ge (tgt := 122) dX9_goRound_18 (by decide) ⟨fun c1 => ?_, fun c1 => ?_⟩
  · have h := h.1 c1
    refine nE_iconst (v := 0) dX9_goRound_122 (by decide) ?_
    refine nE_istore dX9_goRound_123 rfl (by decide) ?_
    refine nE_weak 4 ?_
    refine nE_weak 5 ?_
    exact h
  · have h := h.2 c1
    refine nE_iload dX9_goRound_21 rfl ?_
    refine nE_aload_n dX9_goRound_23 rfl rfl ?_
    refine nE_iload dX9_goRound_24 rfl ?_
    refine nE_aload_n dX9_goRound_26 rfl rfl ?_
    refine nE_getC fl_X9_63 sR_0 rfl dX9_goRound_27 ?_
    refine nE_iload dX9_goRound_30 rfl ?_
    obtain ⟨g2, h⟩ := h
    refine nG_iald (j := x9.toNatClampNeg) sR_17 rfl dX9_goRound_32 ⟨g2, ?_⟩
    obtain ⟨g3, h⟩ := h
    refine nE_callV (As := [.int x7, .int (σ.2.1 17 x9.toNatClampNeg)]) yf_X9_farOf ⟨by decide, by decide⟩ rfl rfl sR_0 rfl vl_X9_203 dX9_goRound_33 rfl rfl (Nat.le_of_ble_eq_true rfl) (Nat.le_of_ble_eq_true rfl) (p_X9_farOf g3 ?_)
    refine nE_iadd dX9_goRound_36 ?_
    refine nE_istore dX9_goRound_37 rfl (by decide) ?_
    refine nE_aload_n dX9_goRound_39 rfl rfl ?_
    refine nE_getC fl_X9_63 sR_0 rfl dX9_goRound_40 ?_
    refine nE_iload dX9_goRound_43 rfl ?_
    refine nG_iald (j := x9.toNatClampNeg) sR_17 rfl dX9_goRound_45 ⟨g2, ?_⟩
    refine nE_istore dX9_goRound_46 rfl (by decide) ?_
    refine nE_iload dX9_goRound_48 rfl ?_
    refine nE_iload dX9_goRound_50 rfl ?_
    refine nE_iload dX9_goRound_52 rfl ?_
    refine nE_callS (As := [.int (σ.2.1 17 x9.toNatClampNeg), .int x5, .int x4]) yf_X9_isAway ⟨by decide, by decide⟩ rfl sl_X9_212 dX9_goRound_54 rfl rfl (Nat.le_of_ble_eq_true rfl) (Nat.le_of_ble_eq_true rfl) (p_X9_isAway _ _ _ ?_)
    refine nE_ifb_eq (tgt := 89) dX9_goRound_57 (by decide) ⟨fun c4 => ?_, fun c4 => ?_⟩
    · have h := h.1 c4
      refine nE_iload dX9_goRound_89 rfl ?_
      refine nE_iload dX9_goRound_91 rfl ?_
      refine nE_icmp_eq (tgt := 116) dX9_goRound_93 (by decide) ⟨fun c5 => ?_, fun c5 => ?_⟩
      · have h := h.1 c5
        refine nE_iinc (v := x9 + 1) dX9_goRound_116 rfl rfl (by decide) rfl ?_
        refine nE_goto (tgt := 12) dX9_goRound_119 (by decide) ?_
        exact h
      · have h := h.2 c5
        refine nE_aload_n dX9_goRound_96 rfl rfl ?_
        refine nE_getC fl_X9_57 sR_0 rfl dX9_goRound_97 ?_
        refine nE_iload dX9_goRound_100 rfl ?_
        refine nE_iload dX9_goRound_102 rfl ?_
        refine nE_aload_n dX9_goRound_104 rfl rfl ?_
        refine nE_getC fl_X9_17 sR_0 rfl dX9_goRound_105 ?_
        refine nE_bipush (v := 6) dX9_goRound_108 (by decide) ?_
        refine nE_iload dX9_goRound_110 rfl ?_
        refine nE_imul dX9_goRound_112 ?_
        obtain ⟨g6, h⟩ := h
        refine nG_iald (j := (6 * (σ.2.1 17 x9.toNatClampNeg)).toNatClampNeg) sR_3 rfl dX9_goRound_113 ⟨g6, ?_⟩
        refine nE_iadd dX9_goRound_114 ?_
        obtain ⟨g7, h⟩ := h
        refine nG_iast (j := (σ.2.1 17 x9.toNatClampNeg).toNatClampNeg) sR_15 rfl dX9_goRound_115 ⟨g7, ?_⟩
        refine nE_iinc (v := x9 + 1) dX9_goRound_116 rfl rfl (by decide) rfl ?_
        refine nE_goto (tgt := 12) dX9_goRound_119 (by decide) ?_
        exact h
    · have h := h.2 c4
      refine nE_iload dX9_goRound_60 rfl ?_
      refine nE_aload_n dX9_goRound_62 rfl rfl ?_
      refine nE_getC fl_X9_17 sR_0 rfl dX9_goRound_63 ?_
      refine nE_bipush (v := 6) dX9_goRound_66 (by decide) ?_
      refine nE_iload dX9_goRound_68 rfl ?_
      refine nE_imul dX9_goRound_70 ?_
      refine nE_iconst (v := 1) dX9_goRound_71 (by decide) ?_
      refine nE_iadd dX9_goRound_72 ?_
      obtain ⟨g8, h⟩ := h
      refine nG_iald (j := ((6 * (σ.2.1 17 x9.toNatClampNeg)) + 1).toNatClampNeg) sR_3 rfl dX9_goRound_73 ⟨g8, ?_⟩
      refine nE_iadd dX9_goRound_74 ?_
      refine nE_istore dX9_goRound_75 rfl (by decide) ?_
      refine nE_iload dX9_goRound_77 rfl ?_
      refine nE_iconst (v := 1) dX9_goRound_79 (by decide) ?_
      refine nE_iload dX9_goRound_80 rfl ?_
      refine nE_ishl dX9_goRound_82 ?_
      refine nE_ior dX9_goRound_83 ?_
      refine nE_istore dX9_goRound_84 rfl (by decide) ?_
      refine nE_goto (tgt := 116) dX9_goRound_86 (by decide) ?_
      refine nE_iinc (v := x9 + 1) dX9_goRound_116 rfl rfl (by decide) rfl ?_
      refine nE_goto (tgt := 12) dX9_goRound_119 (by decide) ?_
      exact h
set_option maxRecDepth 20000 in
theorem sg_X9_goRound_125 (x3 : Int32) (x6 : Int32) (x7 : Int32) (x8 : Int32) (x9 : Int32) {σ : nh_S} {Q : Option Value → nh_S → Prop} (h : (σ.2.1 9 0 ≤ x9 → (Q none σ)) ∧ (¬ (σ.2.1 9 0 ≤ x9) → (((¬ (nh_hs x8 x9) → (vp_in x9 9)) ∧ ((nh_hs x8 x9) → (vp_in ((9 * x7) + x3) 81))) ∧ (vp_in x9 9) ∧ nh_E kX9_goRound 125 [some (.ref 0), none, none, some (.int x3), none, none, some (.int x6), some (.int x7), some (.int x8), some (.int (x9 + 1))] [] (nh_wa σ 16 x9.toNatClampNeg (if nh_hs x8 x9 then x6 + (σ.2.1 14 (((9 * x7) + x3).toNatClampNeg)) else σ.2.1 16 x9.toNatClampNeg)) Q))) : nh_E kX9_goRound 125 [some (.ref 0), none, none, some (.int x3), none, none, some (.int x6), some (.int x7), some (.int x8), some (.int x9)] [] σ Q := by
  refine nE_iload dX9_goRound_125 rfl ?_
  refine nE_aload_n dX9_goRound_127 rfl rfl ?_
  refine nE_getC fl_X9_35 sR_0 rfl dX9_goRound_128 ?_
  refine nE_iconst (v := 0) dX9_goRound_131 (by decide) ?_
  refine nG_iald (j := 0) sR_9 (by decide) dX9_goRound_132 ⟨(nh_vi (by decide)), ?_⟩
  refine nE_icmp_ge (tgt := 179) dX9_goRound_133 (by decide) ⟨fun c1 => ?_, fun c1 => ?_⟩
  · have h := h.1 c1
    exact nE_vret dX9_goRound_179 rfl h
  · have h := h.2 c1
    refine nE_aload_n dX9_goRound_136 rfl rfl ?_
    refine nE_getC fl_X9_60 sR_0 rfl dX9_goRound_137 ?_
    refine nE_iload dX9_goRound_140 rfl ?_
    refine nE_iload dX9_goRound_142 rfl ?_
    refine nE_iload dX9_goRound_144 rfl ?_
    refine nE_callS (As := [.int x8, .int x9]) yf_X9_has ⟨by decide, by decide⟩ rfl sl_X9_146 dX9_goRound_146 rfl rfl (Nat.le_of_ble_eq_true rfl) (Nat.le_of_ble_eq_true rfl) (p_X9_has _ _ ?_)
    obtain ⟨u4, h⟩ := h
    have j6 : nh_E kX9_goRound 172 [some (.ref 0), none, none, some (.int x3), none, none, some (.int x6), some (.int x7), some (.int x8), some (.int x9)] [.int (if nh_hs x8 x9 then x6 + (σ.2.1 14 (((9 * x7) + x3).toNatClampNeg)) else σ.2.1 16 x9.toNatClampNeg), .int x9, .ref 16] σ Q := by
      obtain ⟨g5, h⟩ := h
      refine nG_iast (j := x9.toNatClampNeg) sR_16 rfl dX9_goRound_172 ⟨g5, ?_⟩
      refine nE_iinc (v := x9 + 1) dX9_goRound_173 rfl rfl (by decide) rfl ?_
      refine nE_goto (tgt := 125) dX9_goRound_176 (by decide) ?_
      exact h
    obtain ⟨u7, u8⟩ := u4
    refine nE_ifb_eq (tgt := 165) dX9_goRound_149 (by decide) ⟨fun c9 => ?_, fun c9 => ?_⟩
    · skip
      have f10 : (nh_hs x8 x9) = False := eq_false c9
      have g2 := (u7 c9)
      refine nE_aload_n dX9_goRound_165 rfl rfl ?_
      refine nE_getC fl_X9_60 sR_0 rfl dX9_goRound_166 ?_
      refine nE_iload dX9_goRound_169 rfl ?_
      refine nG_iald (j := x9.toNatClampNeg) sR_16 rfl dX9_goRound_171 ⟨g2, ?_⟩
      exact nh_topi (show ((if nh_hs x8 x9 then x6 + (σ.2.1 14 (((9 * x7) + x3).toNatClampNeg)) else σ.2.1 16 x9.toNatClampNeg) : Int32) = σ.2.1 16 x9.toNatClampNeg from by simp only [if_true, if_false, not_true_eq_false, not_false_eq_true, true_and, and_true, false_and, and_false, true_or, or_true, false_or, or_false, if_pos, if_neg, ite_true, ite_false, f10]) j6
    · skip
      have f11 : (nh_hs x8 x9) = True := eq_true c9
      have g3 := (u8 c9)
      refine nE_iload dX9_goRound_152 rfl ?_
      refine nE_aload_n dX9_goRound_154 rfl rfl ?_
      refine nE_iload dX9_goRound_155 rfl ?_
      refine nE_iload_n dX9_goRound_157 rfl rfl ?_
      refine nE_callV (As := [.int x7, .int x3]) yf_X9_farOf ⟨by decide, by decide⟩ rfl rfl sR_0 rfl vl_X9_203 dX9_goRound_158 rfl rfl (Nat.le_of_ble_eq_true rfl) (Nat.le_of_ble_eq_true rfl) (p_X9_farOf g3 ?_)
      refine nE_iadd dX9_goRound_161 ?_
      refine nE_goto (tgt := 172) dX9_goRound_162 (by decide) ?_
      exact nh_topi (show ((if nh_hs x8 x9 then x6 + (σ.2.1 14 (((9 * x7) + x3).toNatClampNeg)) else σ.2.1 16 x9.toNatClampNeg) : Int32) = x6 + (σ.2.1 14 (((9 * x7) + x3).toNatClampNeg)) from by simp only [if_true, if_false, not_true_eq_false, not_false_eq_true, true_and, and_true, false_and, and_false, true_or, or_true, false_or, or_false, if_pos, if_neg, ite_true, ite_false, f11]) j6
set_option maxRecDepth 20000 in
theorem sg_X9_begin_0 (x1 : Int32) {σ : nh_S} {Q : Option Value → nh_S → Prop} (h : nh_E kX9_begin 2 [some (.ref 0), some (.int x1), some (.int 0)] [] σ Q) : nh_E kX9_begin 0 [some (.ref 0), some (.int x1), none] [] σ Q := by
  refine nE_iconst (v := 0) dX9_begin_0 (by decide) ?_
  refine nE_istore_n dX9_begin_1 rfl rfl (by decide) ?_
  exact h
set_option maxRecDepth 20000 in
theorem sg_X9_begin_2 (x1 : Int32) (x2 : Int32) {σ : nh_S} {Q : Option Value → nh_S → Prop} (h : (9 ≤ x2 → (Q none σ)) ∧ (¬ (9 ≤ x2) → ((vp_in x2 9) ∧ nh_E kX9_begin 2 [some (.ref 0), some (.int x1), some (.int (x2 + 1))] [] (nh_wa (nh_wa σ 15 x2.toNatClampNeg (if x2 = x1 then 0 else (-1))) 16 x2.toNatClampNeg (-1)) Q))) : nh_E kX9_begin 2 [some (.ref 0), some (.int x1), some (.int x2)] [] σ Q := by
  refine nE_iload_n dX9_begin_2 rfl rfl ?_
  refine nE_bipush (v := 9) dX9_begin_3 (by decide) ?_
  refine nE_icmp_ge (tgt := 37) dX9_begin_5 (by decide) ⟨fun c1 => ?_, fun c1 => ?_⟩
  · have h := h.1 c1
    exact nE_vret dX9_begin_37 rfl h
  · have h := h.2 c1
    refine nE_aload_n dX9_begin_8 rfl rfl ?_
    refine nE_getC fl_X9_57 sR_0 rfl dX9_begin_9 ?_
    refine nE_iload_n dX9_begin_12 rfl rfl ?_
    refine nE_iload_n dX9_begin_13 rfl rfl ?_
    refine nE_iload_n dX9_begin_14 rfl rfl ?_
    have j3 : nh_E kX9_begin 23 [some (.ref 0), some (.int x1), some (.int x2)] [.int (if x2 = x1 then 0 else (-1)), .int x2, .ref 15] σ Q := by
      obtain ⟨g2, h⟩ := h
      refine nG_iast (j := x2.toNatClampNeg) sR_15 rfl dX9_begin_23 ⟨g2, ?_⟩
      refine nE_aload_n dX9_begin_24 rfl rfl ?_
      refine nE_getC fl_X9_60 sR_0 rfl dX9_begin_25 ?_
      refine nE_iload_n dX9_begin_28 rfl rfl ?_
      refine nE_iconst (v := (-1)) dX9_begin_29 (by decide) ?_
      refine nG_iast (j := x2.toNatClampNeg) sR_16 rfl dX9_begin_30 ⟨g2, ?_⟩
      refine nE_iinc (v := x2 + 1) dX9_begin_31 rfl rfl (by decide) rfl ?_
      refine nE_goto (tgt := 2) dX9_begin_34 (by decide) ?_
      exact h
    refine nE_icmp_ne (tgt := 22) dX9_begin_15 (by decide) ⟨fun c4 => ?_, fun c4 => ?_⟩
    · skip
      have f5 : (x2 = x1) = False := eq_false c4
      refine nE_iconst (v := (-1)) dX9_begin_22 (by decide) ?_
      exact nh_topi (show ((if x2 = x1 then 0 else (-1)) : Int32) = (-1) from by simp only [if_true, if_false, not_true_eq_false, not_false_eq_true, true_and, and_true, false_and, and_false, true_or, or_true, false_or, or_false, if_pos, if_neg, ite_true, ite_false, f5]) j3
    · skip
      have f6 : (x2 = x1) = True := eq_true c4
      refine nE_iconst (v := 0) dX9_begin_18 (by decide) ?_
      refine nE_goto (tgt := 23) dX9_begin_19 (by decide) ?_
      exact nh_topi (show ((if x2 = x1 then 0 else (-1)) : Int32) = 0 from by simp only [if_true, if_false, not_true_eq_false, not_false_eq_true, true_and, and_true, false_and, and_false, true_or, or_true, false_or, or_false, if_pos, if_neg, ite_true, ite_false, f6]) j3
set_option maxRecDepth 20000 in
theorem sg_X9_arriveAwake_0 (x1 : Int32) {σ : nh_S} {Q : Option Value → nh_S → Prop} (h : nh_E kX9_arriveAwake 2 [some (.ref 0), some (.int x1), some (.int 0)] [] σ Q) : nh_E kX9_arriveAwake 0 [some (.ref 0), some (.int x1), none] [] σ Q := by
  refine nE_iconst (v := 0) dX9_arriveAwake_0 (by decide) ?_
  refine nE_istore_n dX9_arriveAwake_1 rfl rfl (by decide) ?_
  exact h
set_option maxRecDepth 20000 in
theorem sg_X9_arriveAwake_2 (x1 : Int32) (x2 : Int32) {σ : nh_S} {Q : Option Value → nh_S → Prop} (h : (σ.2.1 9 0 ≤ x2 → (Q none σ)) ∧ (¬ (σ.2.1 9 0 ≤ x2) → ((vp_in x2 9) ∧ ((¬ (σ.2.1 15 x2.toNatClampNeg < 0) → (vp_in ((9 * x2) + x1) 81))) ∧ nh_E kX9_arriveAwake 2 [some (.ref 0), some (.int x1), some (.int (x2 + 1))] [] (nh_wa σ 16 x2.toNatClampNeg (if σ.2.1 15 x2.toNatClampNeg < 0 then σ.2.1 16 x2.toNatClampNeg else (σ.2.1 15 x2.toNatClampNeg) + (σ.2.1 14 (((9 * x2) + x1).toNatClampNeg)))) Q))) : nh_E kX9_arriveAwake 2 [some (.ref 0), some (.int x1), some (.int x2)] [] σ Q := by
  refine nE_iload_n dX9_arriveAwake_2 rfl rfl ?_
  refine nE_aload_n dX9_arriveAwake_3 rfl rfl ?_
  refine nE_getC fl_X9_35 sR_0 rfl dX9_arriveAwake_4 ?_
  refine nE_iconst (v := 0) dX9_arriveAwake_7 (by decide) ?_
  refine nG_iald (j := 0) sR_9 (by decide) dX9_arriveAwake_8 ⟨(nh_vi (by decide)), ?_⟩
  refine nE_icmp_ge (tgt := 55) dX9_arriveAwake_9 (by decide) ⟨fun c1 => ?_, fun c1 => ?_⟩
  · have h := h.1 c1
    exact nE_vret dX9_arriveAwake_55 rfl h
  · have h := h.2 c1
    refine nE_aload_n dX9_arriveAwake_12 rfl rfl ?_
    refine nE_getC fl_X9_60 sR_0 rfl dX9_arriveAwake_13 ?_
    refine nE_iload_n dX9_arriveAwake_16 rfl rfl ?_
    refine nE_aload_n dX9_arriveAwake_17 rfl rfl ?_
    refine nE_getC fl_X9_57 sR_0 rfl dX9_arriveAwake_18 ?_
    refine nE_iload_n dX9_arriveAwake_21 rfl rfl ?_
    obtain ⟨g2, h⟩ := h
    refine nG_iald (j := x2.toNatClampNeg) sR_15 rfl dX9_arriveAwake_22 ⟨g2, ?_⟩
    obtain ⟨u4, h⟩ := h
    have j5 : nh_E kX9_arriveAwake 48 [some (.ref 0), some (.int x1), some (.int x2)] [.int (if σ.2.1 15 x2.toNatClampNeg < 0 then σ.2.1 16 x2.toNatClampNeg else (σ.2.1 15 x2.toNatClampNeg) + (σ.2.1 14 (((9 * x2) + x1).toNatClampNeg))), .int x2, .ref 16] σ Q := by
      refine nG_iast (j := x2.toNatClampNeg) sR_16 rfl dX9_arriveAwake_48 ⟨g2, ?_⟩
      refine nE_iinc (v := x2 + 1) dX9_arriveAwake_49 rfl rfl (by decide) rfl ?_
      refine nE_goto (tgt := 2) dX9_arriveAwake_52 (by decide) ?_
      exact h
    have u6 := u4
    refine nE_if_lt (tgt := 42) dX9_arriveAwake_23 (by decide) ⟨fun c7 => ?_, fun c7 => ?_⟩
    · skip
      have f8 : (σ.2.1 15 x2.toNatClampNeg < 0) = True := eq_true c7
      refine nE_aload_n dX9_arriveAwake_42 rfl rfl ?_
      refine nE_getC fl_X9_60 sR_0 rfl dX9_arriveAwake_43 ?_
      refine nE_iload_n dX9_arriveAwake_46 rfl rfl ?_
      refine nG_iald (j := x2.toNatClampNeg) sR_16 rfl dX9_arriveAwake_47 ⟨g2, ?_⟩
      exact nh_topi (show ((if σ.2.1 15 x2.toNatClampNeg < 0 then σ.2.1 16 x2.toNatClampNeg else (σ.2.1 15 x2.toNatClampNeg) + (σ.2.1 14 (((9 * x2) + x1).toNatClampNeg))) : Int32) = σ.2.1 16 x2.toNatClampNeg from by simp only [if_true, if_false, not_true_eq_false, not_false_eq_true, true_and, and_true, false_and, and_false, true_or, or_true, false_or, or_false, if_pos, if_neg, ite_true, ite_false, f8]) j5
    · skip
      have f9 : (σ.2.1 15 x2.toNatClampNeg < 0) = False := eq_false c7
      have g3 := (u6 c7)
      refine nE_aload_n dX9_arriveAwake_26 rfl rfl ?_
      refine nE_getC fl_X9_57 sR_0 rfl dX9_arriveAwake_27 ?_
      refine nE_iload_n dX9_arriveAwake_30 rfl rfl ?_
      refine nG_iald (j := x2.toNatClampNeg) sR_15 rfl dX9_arriveAwake_31 ⟨g2, ?_⟩
      refine nE_aload_n dX9_arriveAwake_32 rfl rfl ?_
      refine nE_iload_n dX9_arriveAwake_33 rfl rfl ?_
      refine nE_iload_n dX9_arriveAwake_34 rfl rfl ?_
      refine nE_callV (As := [.int x2, .int x1]) yf_X9_farOf ⟨by decide, by decide⟩ rfl rfl sR_0 rfl vl_X9_203 dX9_arriveAwake_35 rfl rfl (Nat.le_of_ble_eq_true rfl) (Nat.le_of_ble_eq_true rfl) (p_X9_farOf g3 ?_)
      refine nE_iadd dX9_arriveAwake_38 ?_
      refine nE_goto (tgt := 48) dX9_arriveAwake_39 (by decide) ?_
      exact nh_topi (show ((if σ.2.1 15 x2.toNatClampNeg < 0 then σ.2.1 16 x2.toNatClampNeg else (σ.2.1 15 x2.toNatClampNeg) + (σ.2.1 14 (((9 * x2) + x1).toNatClampNeg))) : Int32) = (σ.2.1 15 x2.toNatClampNeg) + (σ.2.1 14 (((9 * x2) + x1).toNatClampNeg)) from by simp only [if_true, if_false, not_true_eq_false, not_false_eq_true, true_and, and_true, false_and, and_false, true_or, or_true, false_or, or_false, if_pos, if_neg, ite_true, ite_false, f9]) j5
set_option maxRecDepth 20000 in
theorem sg_X9_burn_0 (x1 : Int32) (x2 : Int32) (x3 : Int32) {σ : nh_S} {Q : Option Value → nh_S → Prop} (h : nh_E kX9_begin 0 [some (.ref 0), some (.int x2), none] [] σ (nh_qv fun τ1 => nh_E kX9_burn 11 [some (.ref 0), some (.int x1), some (.int x2), some (.int x3), some (.int 0), some (.int 1), none, none] [] τ1 Q)) : nh_E kX9_burn 0 [some (.ref 0), some (.int x1), some (.int x2), some (.int x3), none, none, none, none] [] σ Q := by
  refine nE_aload_n dX9_burn_0 rfl rfl ?_
  refine nE_iload_n dX9_burn_1 rfl rfl ?_
  refine nE_callV (As := [.int x2]) yf_X9_begin ⟨by decide, by decide⟩ rfl rfl sR_0 rfl vl_X9_216 dX9_burn_2 rfl rfl (Nat.le_of_ble_eq_true rfl) (Nat.le_of_ble_eq_true rfl) (nE_mono (fun z3 τ1 h => ?_) h)
  obtain ⟨rfl, h⟩ := h
  refine nE_iconst (v := 0) dX9_burn_5 (by decide) ?_
  refine nE_istore dX9_burn_6 rfl (by decide) ?_
  refine nE_iconst (v := 1) dX9_burn_8 (by decide) ?_
  refine nE_istore dX9_burn_9 rfl (by decide) ?_
  exact h
set_option maxRecDepth 20000 in
theorem sg_X9_burn_11 (x1 : Int32) (x2 : Int32) (x3 : Int32) (x4 : Int32) (x5 : Int32) {σ : nh_S} {Q : Option Value → nh_S → Prop} (h : (x5 = 0 → (nh_E kX9_arriveAwake 0 [some (.ref 0), some (.int x1), none] [] σ (nh_qv fun τ2 => Q none τ2))) ∧ (¬ (x5 = 0) → (nh_E kX9_burn 22 [some (.ref 0), some (.int x1), some (.int x2), some (.int x3), some (.int x4), some (.int 0), some (.int 0), none] [] σ Q))) : nh_E kX9_burn 11 [some (.ref 0), some (.int x1), some (.int x2), some (.int x3), some (.int x4), some (.int x5), none, none] [] σ Q := by
  refine nE_iload dX9_burn_11 rfl ?_
  refine nE_if_eq (tgt := 151) dX9_burn_13 (by decide) ⟨fun c1 => ?_, fun c1 => ?_⟩
  · have h := h.1 c1
    refine nE_aload_n dX9_burn_151 rfl rfl ?_
    refine nE_iload_n dX9_burn_152 rfl rfl ?_
    refine nE_callV (As := [.int x1]) yf_X9_arriveAwake ⟨by decide, by decide⟩ rfl rfl sR_0 rfl vl_X9_223 dX9_burn_153 rfl rfl (Nat.le_of_ble_eq_true rfl) (Nat.le_of_ble_eq_true rfl) (nE_mono (fun z4 τ2 h => ?_) h)
    obtain ⟨rfl, h⟩ := h
    exact nE_vret dX9_burn_156 rfl h
  · have h := h.2 c1
    refine nE_iconst (v := 0) dX9_burn_16 (by decide) ?_
    refine nE_istore dX9_burn_17 rfl (by decide) ?_
    refine nE_iconst (v := 0) dX9_burn_19 (by decide) ?_
    refine nE_istore dX9_burn_20 rfl (by decide) ?_
    exact h
set_option maxRecDepth 20000 in
theorem sg_X9_burn_22 (x1 : Int32) (x2 : Int32) (x3 : Int32) (x4 : Int32) (x5 : Int32) (x6 : Int32) {σ : nh_S} {Q : Option Value → nh_S → Prop} (h : (σ.2.1 9 0 ≤ x6 → (nh_E kX9_burn 11 [some (.ref 0), some (.int x1), some (.int x2), some (.int x3), some (.int x4), some (.int x5), none, none] [] σ Q)) ∧ (¬ (σ.2.1 9 0 ≤ x6) → ((vp_in x6 9) ∧ (σ.2.1 15 x6.toNatClampNeg < 0 → (nh_E kX9_burn 22 [some (.ref 0), some (.int x1), some (.int x2), some (.int x3), some (.int x4), some (.int x5), some (.int (x6 + 1)), none] [] σ Q)) ∧ (¬ (σ.2.1 15 x6.toNatClampNeg < 0) → ((nh_hs x4 x6 → (nh_E kX9_burn 22 [some (.ref 0), some (.int x1), some (.int x2), some (.int x3), some (.int x4), some (.int x5), some (.int (x6 + 1)), none] [] σ Q)) ∧ (¬ (nh_hs x4 x6) → (nh_E kX9_burn 73 [some (.ref 0), some (.int x1), some (.int x2), some (.int x3), some (.int (x4 ||| (1 <<< (x6 &&& 31)))), some (.int 1), some (.int x6), some (.int 0)] [] (nh_si σ 0 26 0) Q))))))) : nh_E kX9_burn 22 [some (.ref 0), some (.int x1), some (.int x2), some (.int x3), some (.int x4), some (.int x5), some (.int x6), none] [] σ Q := by
  refine nE_iload dX9_burn_22 rfl ?_
  refine nE_aload_n dX9_burn_24 rfl rfl ?_
  refine nE_getC fl_X9_35 sR_0 rfl dX9_burn_25 ?_
  refine nE_iconst (v := 0) dX9_burn_28 (by decide) ?_
  refine nG_iald (j := 0) sR_9 (by decide) dX9_burn_29 ⟨(nh_vi (by decide)), ?_⟩
  refine nE_icmp_ge (tgt := 148) dX9_burn_30 (by decide) ⟨fun c1 => ?_, fun c1 => ?_⟩
  · have h := h.1 c1
    refine nE_goto (tgt := 11) dX9_burn_148 (by decide) ?_
    refine nE_weak 6 ?_
    exact h
  · have h := h.2 c1
    refine nE_aload_n dX9_burn_33 rfl rfl ?_
    refine nE_getC fl_X9_57 sR_0 rfl dX9_burn_34 ?_
    refine nE_iload dX9_burn_37 rfl ?_
    obtain ⟨g2, h⟩ := h
    refine nG_iald (j := x6.toNatClampNeg) sR_15 rfl dX9_burn_39 ⟨g2, ?_⟩
    refine nE_if_lt (tgt := 142) dX9_burn_40 (by decide) ⟨fun c3 => ?_, fun c3 => ?_⟩
    · have h := h.1 c3
      refine nE_iinc (v := x6 + 1) dX9_burn_142 rfl rfl (by decide) rfl ?_
      refine nE_goto (tgt := 22) dX9_burn_145 (by decide) ?_
      exact h
    · have h := h.2 c3
      refine nE_iload dX9_burn_43 rfl ?_
      refine nE_iload dX9_burn_45 rfl ?_
      refine nE_callS (As := [.int x4, .int x6]) yf_X9_has ⟨by decide, by decide⟩ rfl sl_X9_146 dX9_burn_47 rfl rfl (Nat.le_of_ble_eq_true rfl) (Nat.le_of_ble_eq_true rfl) (p_X9_has _ _ ?_)
      refine nE_ifb_ne (tgt := 142) dX9_burn_50 (by decide) ⟨fun c4 => ?_, fun c4 => ?_⟩
      · have h := h.1 c4
        refine nE_iinc (v := x6 + 1) dX9_burn_142 rfl rfl (by decide) rfl ?_
        refine nE_goto (tgt := 22) dX9_burn_145 (by decide) ?_
        exact h
      · have h := h.2 c4
        refine nE_iload dX9_burn_53 rfl ?_
        refine nE_iconst (v := 1) dX9_burn_55 (by decide) ?_
        refine nE_iload dX9_burn_56 rfl ?_
        refine nE_ishl dX9_burn_58 ?_
        refine nE_ior dX9_burn_59 ?_
        refine nE_istore dX9_burn_60 rfl (by decide) ?_
        refine nE_iconst (v := 1) dX9_burn_62 (by decide) ?_
        refine nE_istore dX9_burn_63 rfl (by decide) ?_
        refine nE_aload_n dX9_burn_65 rfl rfl ?_
        refine nE_iconst (v := 0) dX9_burn_66 (by decide) ?_
        refine nE_putI fl_X9_209 sR_0 rfl ⟨rfl, rfl⟩ dX9_burn_67 ?_
        refine nE_iconst (v := 0) dX9_burn_70 (by decide) ?_
        refine nE_istore dX9_burn_71 rfl (by decide) ?_
        exact h
set_option maxRecDepth 20000 in
theorem sg_X9_burn_73 (x1 : Int32) (x2 : Int32) (x3 : Int32) (x4 : Int32) (x5 : Int32) (x6 : Int32) (x7 : Int32) {σ : nh_S} {Q : Option Value → nh_S → Prop} (h : (σ.1 0 11 ≤ x7 → ((vp_in x6 9) ∧ nh_E kX9_goRound 0 [some (.ref 0), some (.int x6), some (.int (σ.2.1 15 x6.toNatClampNeg)), some (.int x1), some (.int x2), some (.int x3), none, none, none, none] [] σ (nh_qv fun τ3 => nh_E kX9_burn 22 [some (.ref 0), some (.int x1), some (.int x2), some (.int x3), some (.int x4), some (.int x5), some (.int (x6 + 1)), none] [] τ3 Q))) ∧ (¬ (σ.1 0 11 ≤ x7) → ((vp_in x7 40) ∧ (¬ (σ.2.1 10 x7.toNatClampNeg = x6) → (nh_E kX9_burn 73 [some (.ref 0), some (.int x1), some (.int x2), some (.int x3), some (.int x4), some (.int x5), some (.int x6), some (.int (x7 + 1))] [] σ Q)) ∧ (σ.2.1 10 x7.toNatClampNeg = x6 → ((vp_in (σ.1 0 26) 20) ∧ nh_E kX9_burn 73 [some (.ref 0), some (.int x1), some (.int x2), some (.int x3), some (.int x4), some (.int x5), some (.int x6), some (.int (x7 + 1))] [] (nh_si (nh_wa σ 17 ((σ.1 0 26).toNatClampNeg) (σ.2.1 11 x7.toNatClampNeg)) 0 26 ((σ.1 0 26) + 1)) Q))))) : nh_E kX9_burn 73 [some (.ref 0), some (.int x1), some (.int x2), some (.int x3), some (.int x4), some (.int x5), some (.int x6), some (.int x7)] [] σ Q := by
  refine nE_iload dX9_burn_73 rfl ?_
  refine nE_aload_n dX9_burn_75 rfl rfl ?_
  refine nE_getI fl_X9_173 sR_0 rfl dX9_burn_76 ?_
  refine nE_icmp_ge (tgt := 126) dX9_burn_79 (by decide) ⟨fun c1 => ?_, fun c1 => ?_⟩
  · have h := h.1 c1
    refine nE_aload_n dX9_burn_126 rfl rfl ?_
    refine nE_iload dX9_burn_127 rfl ?_
    refine nE_aload_n dX9_burn_129 rfl rfl ?_
    refine nE_getC fl_X9_57 sR_0 rfl dX9_burn_130 ?_
    refine nE_iload dX9_burn_133 rfl ?_
    obtain ⟨g2, h⟩ := h
    refine nG_iald (j := x6.toNatClampNeg) sR_15 rfl dX9_burn_135 ⟨g2, ?_⟩
    refine nE_iload_n dX9_burn_136 rfl rfl ?_
    refine nE_iload_n dX9_burn_137 rfl rfl ?_
    refine nE_iload_n dX9_burn_138 rfl rfl ?_
    refine nE_callV (As := [.int x6, .int (σ.2.1 15 x6.toNatClampNeg), .int x1, .int x2, .int x3]) yf_X9_goRound ⟨by decide, by decide⟩ rfl rfl sR_0 rfl vl_X9_219 dX9_burn_139 rfl rfl (Nat.le_of_ble_eq_true rfl) (Nat.le_of_ble_eq_true rfl) (nE_mono (fun z5 τ3 h => ?_) h)
    obtain ⟨rfl, h⟩ := h
    refine nE_iinc (v := x6 + 1) dX9_burn_142 rfl rfl (by decide) rfl ?_
    refine nE_goto (tgt := 22) dX9_burn_145 (by decide) ?_
    refine nE_weak 7 ?_
    exact h
  · have h := h.2 c1
    refine nE_aload_n dX9_burn_82 rfl rfl ?_
    refine nE_getC fl_X9_38 sR_0 rfl dX9_burn_83 ?_
    refine nE_iload dX9_burn_86 rfl ?_
    obtain ⟨g6, h⟩ := h
    refine nG_iald (j := x7.toNatClampNeg) sR_10 rfl dX9_burn_88 ⟨g6, ?_⟩
    refine nE_iload dX9_burn_89 rfl ?_
    refine nE_icmp_ne (tgt := 120) dX9_burn_91 (by decide) ⟨fun c7 => ?_, fun c7 => ?_⟩
    · have h := h.1 c7
      refine nE_iinc (v := x7 + 1) dX9_burn_120 rfl rfl (by decide) rfl ?_
      refine nE_goto (tgt := 73) dX9_burn_123 (by decide) ?_
      exact h
    · have h := h.2 c7
      refine nE_aload_n dX9_burn_94 rfl rfl ?_
      refine nE_getC fl_X9_63 sR_0 rfl dX9_burn_95 ?_
      refine nE_aload_n dX9_burn_98 rfl rfl ?_
      refine nE_getI fl_X9_209 sR_0 rfl dX9_burn_99 ?_
      refine nE_aload_n dX9_burn_102 rfl rfl ?_
      refine nE_getC fl_X9_41 sR_0 rfl dX9_burn_103 ?_
      refine nE_iload dX9_burn_106 rfl ?_
      refine nG_iald (j := x7.toNatClampNeg) sR_11 rfl dX9_burn_108 ⟨g6, ?_⟩
      obtain ⟨g8, h⟩ := h
      refine nG_iast (j := (σ.1 0 26).toNatClampNeg) sR_17 rfl dX9_burn_109 ⟨g8, ?_⟩
      refine nE_aload_n dX9_burn_110 rfl rfl ?_
      refine nE_dup dX9_burn_111 rfl ?_
      refine nE_getI fl_X9_209 sR_0 rfl dX9_burn_112 ?_
      refine nE_iconst (v := 1) dX9_burn_115 (by decide) ?_
      refine nE_iadd dX9_burn_116 ?_
      refine nE_putI fl_X9_209 sR_0 rfl ⟨rfl, rfl⟩ dX9_burn_117 ?_
      refine nE_iinc (v := x7 + 1) dX9_burn_120 rfl rfl (by decide) rfl ?_
      refine nE_goto (tgt := 73) dX9_burn_123 (by decide) ?_
      exact h
set_option maxRecDepth 20000 in
theorem sg_X9_comeAll_0  {σ : nh_S} {Q : Option Value → nh_S → Prop} (h : nh_E kX9_comeAll 2 [some (.ref 0), some (.int 0)] [] σ Q) : nh_E kX9_comeAll 0 [some (.ref 0), none] [] σ Q := by
  refine nE_iconst (v := 0) dX9_comeAll_0 (by decide) ?_
  refine nE_istore_n dX9_comeAll_1 rfl rfl (by decide) ?_
  exact h
set_option maxRecDepth 20000 in
theorem sg_X9_comeAll_2 (x1 : Int32) {σ : nh_S} {Q : Option Value → nh_S → Prop} (h : (σ.2.1 9 1 ≤ x1 → (Q none σ)) ∧ (¬ (σ.2.1 9 1 ≤ x1) → ((vp_in x1 78) ∧ (vp_in (σ.2.1 1 x1.toNatClampNeg) 9) ∧ (vp_in x1 12) ∧ nh_E kX9_comeAll 2 [some (.ref 0), some (.int (x1 + 1))] [] (nh_wa σ 18 x1.toNatClampNeg (σ.2.1 16 ((σ.2.1 1 x1.toNatClampNeg).toNatClampNeg))) Q))) : nh_E kX9_comeAll 2 [some (.ref 0), some (.int x1)] [] σ Q := by
  refine nE_iload_n dX9_comeAll_2 rfl rfl ?_
  refine nE_aload_n dX9_comeAll_3 rfl rfl ?_
  refine nE_getC fl_X9_35 sR_0 rfl dX9_comeAll_4 ?_
  refine nE_iconst (v := 1) dX9_comeAll_7 (by decide) ?_
  refine nG_iald (j := 1) sR_9 (by decide) dX9_comeAll_8 ⟨(nh_vi (by decide)), ?_⟩
  refine nE_icmp_ge (tgt := 35) dX9_comeAll_9 (by decide) ⟨fun c1 => ?_, fun c1 => ?_⟩
  · have h := h.1 c1
    exact nE_vret dX9_comeAll_35 rfl h
  · have h := h.2 c1
    refine nE_aload_n dX9_comeAll_12 rfl rfl ?_
    refine nE_getC fl_X9_66 sR_0 rfl dX9_comeAll_13 ?_
    refine nE_iload_n dX9_comeAll_16 rfl rfl ?_
    refine nE_aload_n dX9_comeAll_17 rfl rfl ?_
    refine nE_getC fl_X9_60 sR_0 rfl dX9_comeAll_18 ?_
    refine nE_aload_n dX9_comeAll_21 rfl rfl ?_
    refine nE_getC fl_X9_7 sR_0 rfl dX9_comeAll_22 ?_
    refine nE_iload_n dX9_comeAll_25 rfl rfl ?_
    obtain ⟨g2, h⟩ := h
    refine nG_iald (j := x1.toNatClampNeg) sR_1 rfl dX9_comeAll_26 ⟨g2, ?_⟩
    obtain ⟨g3, h⟩ := h
    refine nG_iald (j := (σ.2.1 1 x1.toNatClampNeg).toNatClampNeg) sR_16 rfl dX9_comeAll_27 ⟨g3, ?_⟩
    obtain ⟨g4, h⟩ := h
    refine nG_iast (j := x1.toNatClampNeg) sR_18 rfl dX9_comeAll_28 ⟨g4, ?_⟩
    refine nE_iinc (v := x1 + 1) dX9_comeAll_29 rfl rfl (by decide) rfl ?_
    refine nE_goto (tgt := 2) dX9_comeAll_32 (by decide) ?_
    exact h
set_option maxRecDepth 20000 in
theorem sg_X9_putIn_0 (x1 : Int32) {σ : nh_S} {Q : Option Value → nh_S → Prop} (h : nh_E kX9_putIn 7 [some (.ref 0), some (.int x1), some (.int 0), none, none] [] (nh_si σ 0 31 0) Q) : nh_E kX9_putIn 0 [some (.ref 0), some (.int x1), none, none, none] [] σ Q := by
  refine nE_aload_n dX9_putIn_0 rfl rfl ?_
  refine nE_iconst (v := 0) dX9_putIn_1 (by decide) ?_
  refine nE_putI fl_X9_226 sR_0 rfl ⟨rfl, rfl⟩ dX9_putIn_2 ?_
  refine nE_iconst (v := 0) dX9_putIn_5 (by decide) ?_
  refine nE_istore_n dX9_putIn_6 rfl rfl (by decide) ?_
  exact h
set_option maxRecDepth 20000 in
theorem sg_X9_putIn_7 (x1 : Int32) (x2 : Int32) {σ : nh_S} {Q : Option Value → nh_S → Prop} (h : (σ.2.1 9 1 ≤ x2 → (nh_E kX9_putIn 199 [some (.ref 0), none, some (.int 0), some (.int 0), none] [] σ Q)) ∧ (¬ (σ.2.1 9 1 ≤ x2) → ((¬ (nh_hs x1 x2) → (nh_E kX9_putIn 7 [some (.ref 0), some (.int x1), some (.int (x2 + 1)), none, none] [] σ Q)) ∧ (nh_hs x1 x2 → ((vp_in x2 12) ∧ (0 ≤ σ.2.1 18 x2.toNatClampNeg → (nh_E kX9_putIn 50 [some (.ref 0), some (.int x1), some (.int x2), some (.int 0), none] [] (nh_wa σ 19 x2.toNatClampNeg (σ.2.1 18 x2.toNatClampNeg)) Q)) ∧ (¬ (0 ≤ σ.2.1 18 x2.toNatClampNeg) → (Q (some (.int (-1))) σ))))))) : nh_E kX9_putIn 7 [some (.ref 0), some (.int x1), some (.int x2), none, none] [] σ Q := by
  refine nE_iload_n dX9_putIn_7 rfl rfl ?_
  refine nE_aload_n dX9_putIn_8 rfl rfl ?_
  refine nE_getC fl_X9_35 sR_0 rfl dX9_putIn_9 ?_
  refine nE_iconst (v := 1) dX9_putIn_12 (by decide) ?_
  refine nG_iald (j := 1) sR_9 (by decide) dX9_putIn_13 ⟨(nh_vi (by decide)), ?_⟩
  refine nE_icmp_ge (tgt := 195) dX9_putIn_14 (by decide) ⟨fun c1 => ?_, fun c1 => ?_⟩
  · have h := h.1 c1
    refine nE_iconst (v := 0) dX9_putIn_195 (by decide) ?_
    refine nE_istore_n dX9_putIn_196 rfl rfl (by decide) ?_
    refine nE_iconst (v := 0) dX9_putIn_197 (by decide) ?_
    refine nE_istore_n dX9_putIn_198 rfl rfl (by decide) ?_
    refine nE_weak 1 ?_
    exact h
  · have h := h.2 c1
    refine nE_iload_n dX9_putIn_17 rfl rfl ?_
    refine nE_iload_n dX9_putIn_18 rfl rfl ?_
    refine nE_callS (As := [.int x1, .int x2]) yf_X9_has ⟨by decide, by decide⟩ rfl sl_X9_146 dX9_putIn_19 rfl rfl (Nat.le_of_ble_eq_true rfl) (Nat.le_of_ble_eq_true rfl) (p_X9_has _ _ ?_)
    refine nE_ifb_eq (tgt := 189) dX9_putIn_22 (by decide) ⟨fun c2 => ?_, fun c2 => ?_⟩
    · have h := h.1 c2
      refine nE_iinc (v := x2 + 1) dX9_putIn_189 rfl rfl (by decide) rfl ?_
      refine nE_goto (tgt := 7) dX9_putIn_192 (by decide) ?_
      exact h
    · have h := h.2 c2
      refine nE_aload_n dX9_putIn_25 rfl rfl ?_
      refine nE_getC fl_X9_66 sR_0 rfl dX9_putIn_26 ?_
      refine nE_iload_n dX9_putIn_29 rfl rfl ?_
      obtain ⟨g3, h⟩ := h
      refine nG_iald (j := x2.toNatClampNeg) sR_18 rfl dX9_putIn_30 ⟨g3, ?_⟩
      refine nE_if_ge (tgt := 36) dX9_putIn_31 (by decide) ⟨fun c4 => ?_, fun c4 => ?_⟩
      · have h := h.1 c4
        refine nE_aload_n dX9_putIn_36 rfl rfl ?_
        refine nE_getC fl_X9_69 sR_0 rfl dX9_putIn_37 ?_
        refine nE_iload_n dX9_putIn_40 rfl rfl ?_
        refine nE_aload_n dX9_putIn_41 rfl rfl ?_
        refine nE_getC fl_X9_66 sR_0 rfl dX9_putIn_42 ?_
        refine nE_iload_n dX9_putIn_45 rfl rfl ?_
        refine nG_iald (j := x2.toNatClampNeg) sR_18 rfl dX9_putIn_46 ⟨g3, ?_⟩
        refine nG_iast (j := x2.toNatClampNeg) sR_19 rfl dX9_putIn_47 ⟨g3, ?_⟩
        refine nE_iconst (v := 0) dX9_putIn_48 (by decide) ?_
        refine nE_istore_n dX9_putIn_49 rfl rfl (by decide) ?_
        exact h
      · have h := h.2 c4
        refine nE_iconst (v := (-1)) dX9_putIn_34 (by decide) ?_
        exact nE_iret dX9_putIn_35 rfl h
set_option maxRecDepth 20000 in
theorem sg_X9_putIn_50 (x1 : Int32) (x2 : Int32) (x3 : Int32) {σ : nh_S} {Q : Option Value → nh_S → Prop} (h : (x2 ≤ x3 → (nh_E kX9_putIn 126 [some (.ref 0), some (.int x1), some (.int x2), some (.int (σ.1 0 31)), none] [] σ Q)) ∧ (¬ (x2 ≤ x3) → ((vp_in x2 24) ∧ (((nh_hs (σ.2.1 8 x2.toNatClampNeg) x3) → (vp_in x3 12) ∧ (vp_in x3 24))) ∧ (vp_in x2 12) ∧ nh_E kX9_putIn 50 [some (.ref 0), some (.int x1), some (.int x2), some (.int (x3 + 1)), none] [] (nh_wa σ 19 x2.toNatClampNeg (if (if nh_hs (σ.2.1 8 x2.toNatClampNeg) x3 then (σ.2.1 19 x3.toNatClampNeg) + (σ.2.1 6 x3.toNatClampNeg) else 0) ≤ σ.2.1 19 x2.toNatClampNeg then σ.2.1 19 x2.toNatClampNeg else (if nh_hs (σ.2.1 8 x2.toNatClampNeg) x3 then (σ.2.1 19 x3.toNatClampNeg) + (σ.2.1 6 x3.toNatClampNeg) else 0))) Q))) : nh_E kX9_putIn 50 [some (.ref 0), some (.int x1), some (.int x2), some (.int x3), none] [] σ Q := by
  refine nE_iload_n dX9_putIn_50 rfl rfl ?_
  refine nE_iload_n dX9_putIn_51 rfl rfl ?_
  refine nE_icmp_ge (tgt := 121) dX9_putIn_52 (by decide) ⟨fun c1 => ?_, fun c1 => ?_⟩
  · have h := h.1 c1
    refine nE_aload_n dX9_putIn_121 rfl rfl ?_
    refine nE_getI fl_X9_226 sR_0 rfl dX9_putIn_122 ?_
    refine nE_istore_n dX9_putIn_125 rfl rfl (by decide) ?_
    exact h
  · have h := h.2 c1
    refine nE_aload_n dX9_putIn_55 rfl rfl ?_
    refine nE_getC fl_X9_32 sR_0 rfl dX9_putIn_56 ?_
    refine nE_iload_n dX9_putIn_59 rfl rfl ?_
    obtain ⟨g2, h⟩ := h
    refine nG_iald (j := x2.toNatClampNeg) sR_8 rfl dX9_putIn_60 ⟨g2, ?_⟩
    refine nE_iload_n dX9_putIn_61 rfl rfl ?_
    refine nE_callS (As := [.int (σ.2.1 8 x2.toNatClampNeg), .int x3]) yf_X9_has ⟨by decide, by decide⟩ rfl sl_X9_146 dX9_putIn_62 rfl rfl (Nat.le_of_ble_eq_true rfl) (Nat.le_of_ble_eq_true rfl) (p_X9_has _ _ ?_)
    obtain ⟨u5, h⟩ := h
    have j11 : nh_E kX9_putIn 85 [some (.ref 0), some (.int x1), some (.int x2), some (.int x3), none] [.int (if nh_hs (σ.2.1 8 x2.toNatClampNeg) x3 then (σ.2.1 19 x3.toNatClampNeg) + (σ.2.1 6 x3.toNatClampNeg) else 0)] σ Q := by
      refine nE_istore dX9_putIn_85 rfl (by decide) ?_
      refine nE_aload_n dX9_putIn_87 rfl rfl ?_
      refine nE_getC fl_X9_69 sR_0 rfl dX9_putIn_88 ?_
      refine nE_iload_n dX9_putIn_91 rfl rfl ?_
      refine nE_iload dX9_putIn_92 rfl ?_
      refine nE_aload_n dX9_putIn_94 rfl rfl ?_
      refine nE_getC fl_X9_69 sR_0 rfl dX9_putIn_95 ?_
      refine nE_iload_n dX9_putIn_98 rfl rfl ?_
      obtain ⟨g6, h⟩ := h
      refine nG_iald (j := x2.toNatClampNeg) sR_19 rfl dX9_putIn_99 ⟨g6, ?_⟩
      have j7 : nh_E kX9_putIn 114 [some (.ref 0), some (.int x1), some (.int x2), some (.int x3), some (.int (if nh_hs (σ.2.1 8 x2.toNatClampNeg) x3 then (σ.2.1 19 x3.toNatClampNeg) + (σ.2.1 6 x3.toNatClampNeg) else 0))] [.int (if (if nh_hs (σ.2.1 8 x2.toNatClampNeg) x3 then (σ.2.1 19 x3.toNatClampNeg) + (σ.2.1 6 x3.toNatClampNeg) else 0) ≤ σ.2.1 19 x2.toNatClampNeg then σ.2.1 19 x2.toNatClampNeg else (if nh_hs (σ.2.1 8 x2.toNatClampNeg) x3 then (σ.2.1 19 x3.toNatClampNeg) + (σ.2.1 6 x3.toNatClampNeg) else 0)), .int x2, .ref 19] σ Q := by
        refine nG_iast (j := x2.toNatClampNeg) sR_19 rfl dX9_putIn_114 ⟨g6, ?_⟩
        refine nE_iinc (v := x3 + 1) dX9_putIn_115 rfl rfl (by decide) rfl ?_
        refine nE_goto (tgt := 50) dX9_putIn_118 (by decide) ?_
        refine nE_weak 4 ?_
        exact h
      refine nE_icmp_le (tgt := 108) dX9_putIn_100 (by decide) ⟨fun c8 => ?_, fun c8 => ?_⟩
      · skip
        have f9 : ((if nh_hs (σ.2.1 8 x2.toNatClampNeg) x3 then (σ.2.1 19 x3.toNatClampNeg) + (σ.2.1 6 x3.toNatClampNeg) else 0) ≤ σ.2.1 19 x2.toNatClampNeg) = True := eq_true c8
        refine nE_aload_n dX9_putIn_108 rfl rfl ?_
        refine nE_getC fl_X9_69 sR_0 rfl dX9_putIn_109 ?_
        refine nE_iload_n dX9_putIn_112 rfl rfl ?_
        refine nG_iald (j := x2.toNatClampNeg) sR_19 rfl dX9_putIn_113 ⟨g6, ?_⟩
        exact nh_topi (show ((if (if nh_hs (σ.2.1 8 x2.toNatClampNeg) x3 then (σ.2.1 19 x3.toNatClampNeg) + (σ.2.1 6 x3.toNatClampNeg) else 0) ≤ σ.2.1 19 x2.toNatClampNeg then σ.2.1 19 x2.toNatClampNeg else (if nh_hs (σ.2.1 8 x2.toNatClampNeg) x3 then (σ.2.1 19 x3.toNatClampNeg) + (σ.2.1 6 x3.toNatClampNeg) else 0)) : Int32) = σ.2.1 19 x2.toNatClampNeg from by simp only [if_true, if_false, not_true_eq_false, not_false_eq_true, true_and, and_true, false_and, and_false, true_or, or_true, false_or, or_false, if_pos, if_neg, ite_true, ite_false, f9]) j7
      · skip
        have f10 : ((if nh_hs (σ.2.1 8 x2.toNatClampNeg) x3 then (σ.2.1 19 x3.toNatClampNeg) + (σ.2.1 6 x3.toNatClampNeg) else 0) ≤ σ.2.1 19 x2.toNatClampNeg) = False := eq_false c8
        refine nE_iload dX9_putIn_103 rfl ?_
        refine nE_goto (tgt := 114) dX9_putIn_105 (by decide) ?_
        exact nh_topi (show ((if (if nh_hs (σ.2.1 8 x2.toNatClampNeg) x3 then (σ.2.1 19 x3.toNatClampNeg) + (σ.2.1 6 x3.toNatClampNeg) else 0) ≤ σ.2.1 19 x2.toNatClampNeg then σ.2.1 19 x2.toNatClampNeg else (if nh_hs (σ.2.1 8 x2.toNatClampNeg) x3 then (σ.2.1 19 x3.toNatClampNeg) + (σ.2.1 6 x3.toNatClampNeg) else 0)) : Int32) = (if nh_hs (σ.2.1 8 x2.toNatClampNeg) x3 then (σ.2.1 19 x3.toNatClampNeg) + (σ.2.1 6 x3.toNatClampNeg) else 0) from by simp only [if_true, if_false, not_true_eq_false, not_false_eq_true, true_and, and_true, false_and, and_false, true_or, or_true, false_or, or_false, if_pos, if_neg, ite_true, ite_false, f10]) j7
    have u12 := u5
    refine nE_ifb_eq (tgt := 84) dX9_putIn_65 (by decide) ⟨fun c13 => ?_, fun c13 => ?_⟩
    · skip
      have f14 : (nh_hs (σ.2.1 8 x2.toNatClampNeg) x3) = False := eq_false c13
      refine nE_iconst (v := 0) dX9_putIn_84 (by decide) ?_
      exact nh_topi (show ((if nh_hs (σ.2.1 8 x2.toNatClampNeg) x3 then (σ.2.1 19 x3.toNatClampNeg) + (σ.2.1 6 x3.toNatClampNeg) else 0) : Int32) = 0 from by simp only [if_true, if_false, not_true_eq_false, not_false_eq_true, true_and, and_true, false_and, and_false, true_or, or_true, false_or, or_false, if_pos, if_neg, ite_true, ite_false, f14]) j11
    · skip
      have f15 : (nh_hs (σ.2.1 8 x2.toNatClampNeg) x3) = True := eq_true c13
      obtain ⟨g3, g4⟩ := (u12 c13)
      refine nE_aload_n dX9_putIn_68 rfl rfl ?_
      refine nE_getC fl_X9_69 sR_0 rfl dX9_putIn_69 ?_
      refine nE_iload_n dX9_putIn_72 rfl rfl ?_
      refine nG_iald (j := x3.toNatClampNeg) sR_19 rfl dX9_putIn_73 ⟨g3, ?_⟩
      refine nE_aload_n dX9_putIn_74 rfl rfl ?_
      refine nE_getC fl_X9_26 sR_0 rfl dX9_putIn_75 ?_
      refine nE_iload_n dX9_putIn_78 rfl rfl ?_
      refine nG_iald (j := x3.toNatClampNeg) sR_6 rfl dX9_putIn_79 ⟨g4, ?_⟩
      refine nE_iadd dX9_putIn_80 ?_
      refine nE_goto (tgt := 85) dX9_putIn_81 (by decide) ?_
      exact nh_topi (show ((if nh_hs (σ.2.1 8 x2.toNatClampNeg) x3 then (σ.2.1 19 x3.toNatClampNeg) + (σ.2.1 6 x3.toNatClampNeg) else 0) : Int32) = (σ.2.1 19 x3.toNatClampNeg) + (σ.2.1 6 x3.toNatClampNeg) from by simp only [if_true, if_false, not_true_eq_false, not_false_eq_true, true_and, and_true, false_and, and_false, true_or, or_true, false_or, or_false, if_pos, if_neg, ite_true, ite_false, f15]) j11
set_option maxRecDepth 20000 in
theorem sg_X9_putIn_199 (x2 : Int32) (x3 : Int32) {σ : nh_S} {Q : Option Value → nh_S → Prop} (h : (σ.1 0 31 ≤ x3 → (Q (some (.int x2)) σ)) ∧ (¬ (σ.1 0 31 ≤ x3) → ((vp_in x3 12) ∧ (vp_in (σ.2.1 20 x3.toNatClampNeg) 12) ∧ (vp_in (σ.2.1 20 x3.toNatClampNeg) 24) ∧ nh_E kX9_putIn 199 [some (.ref 0), none, some (.int ((((nh_wa σ 21 x3.toNatClampNeg (if σ.2.1 18 ((σ.2.1 20 x3.toNatClampNeg).toNatClampNeg) ≤ x2 then x2 else σ.2.1 18 ((σ.2.1 20 x3.toNatClampNeg).toNatClampNeg)))).2.1 21 x3.toNatClampNeg) + (σ.2.1 6 ((σ.2.1 20 x3.toNatClampNeg).toNatClampNeg)))), some (.int (x3 + 1)), none] [] (nh_wa σ 21 x3.toNatClampNeg (if σ.2.1 18 ((σ.2.1 20 x3.toNatClampNeg).toNatClampNeg) ≤ x2 then x2 else σ.2.1 18 ((σ.2.1 20 x3.toNatClampNeg).toNatClampNeg))) Q))) : nh_E kX9_putIn 199 [some (.ref 0), none, some (.int x2), some (.int x3), none] [] σ Q := by
  refine nE_iload_n dX9_putIn_199 rfl rfl ?_
  refine nE_aload_n dX9_putIn_200 rfl rfl ?_
  refine nE_getI fl_X9_226 sR_0 rfl dX9_putIn_201 ?_
  refine nE_icmp_ge (tgt := 264) dX9_putIn_204 (by decide) ⟨fun c1 => ?_, fun c1 => ?_⟩
  · have h := h.1 c1
    refine nE_iload_n dX9_putIn_264 rfl rfl ?_
    exact nE_iret dX9_putIn_265 rfl h
  · have h := h.2 c1
    refine nE_aload_n dX9_putIn_207 rfl rfl ?_
    refine nE_getC fl_X9_72 sR_0 rfl dX9_putIn_208 ?_
    refine nE_iload_n dX9_putIn_211 rfl rfl ?_
    obtain ⟨g2, h⟩ := h
    refine nG_iald (j := x3.toNatClampNeg) sR_20 rfl dX9_putIn_212 ⟨g2, ?_⟩
    refine nE_istore dX9_putIn_213 rfl (by decide) ?_
    refine nE_aload_n dX9_putIn_215 rfl rfl ?_
    refine nE_getC fl_X9_75 sR_0 rfl dX9_putIn_216 ?_
    refine nE_iload_n dX9_putIn_219 rfl rfl ?_
    refine nE_aload_n dX9_putIn_220 rfl rfl ?_
    refine nE_getC fl_X9_66 sR_0 rfl dX9_putIn_221 ?_
    refine nE_iload dX9_putIn_224 rfl ?_
    obtain ⟨g3, h⟩ := h
    refine nG_iald (j := (σ.2.1 20 x3.toNatClampNeg).toNatClampNeg) sR_18 rfl dX9_putIn_226 ⟨g3, ?_⟩
    refine nE_iload_n dX9_putIn_227 rfl rfl ?_
    have j5 : nh_E kX9_putIn 242 [some (.ref 0), none, some (.int x2), some (.int x3), some (.int (σ.2.1 20 x3.toNatClampNeg))] [.int (if σ.2.1 18 ((σ.2.1 20 x3.toNatClampNeg).toNatClampNeg) ≤ x2 then x2 else σ.2.1 18 ((σ.2.1 20 x3.toNatClampNeg).toNatClampNeg)), .int x3, .ref 21] σ Q := by
      refine nG_iast (j := x3.toNatClampNeg) sR_21 rfl dX9_putIn_242 ⟨g2, ?_⟩
      refine nE_aload_n dX9_putIn_243 rfl rfl ?_
      refine nE_getC fl_X9_75 sR_0 rfl dX9_putIn_244 ?_
      refine nE_iload_n dX9_putIn_247 rfl rfl ?_
      refine nG_iald (j := x3.toNatClampNeg) sR_21 rfl dX9_putIn_248 ⟨g2, ?_⟩
      refine nE_aload_n dX9_putIn_249 rfl rfl ?_
      refine nE_getC fl_X9_26 sR_0 rfl dX9_putIn_250 ?_
      refine nE_iload dX9_putIn_253 rfl ?_
      obtain ⟨g4, h⟩ := h
      refine nG_iald (j := (σ.2.1 20 x3.toNatClampNeg).toNatClampNeg) sR_6 rfl dX9_putIn_255 ⟨g4, ?_⟩
      refine nE_iadd dX9_putIn_256 ?_
      refine nE_istore_n dX9_putIn_257 rfl rfl (by decide) ?_
      refine nE_iinc (v := x3 + 1) dX9_putIn_258 rfl rfl (by decide) rfl ?_
      refine nE_goto (tgt := 199) dX9_putIn_261 (by decide) ?_
      refine nE_weak 4 ?_
      exact h
    refine nE_icmp_le (tgt := 241) dX9_putIn_228 (by decide) ⟨fun c6 => ?_, fun c6 => ?_⟩
    · skip
      have f7 : (σ.2.1 18 ((σ.2.1 20 x3.toNatClampNeg).toNatClampNeg) ≤ x2) = True := eq_true c6
      refine nE_iload_n dX9_putIn_241 rfl rfl ?_
      exact nh_topi (show ((if σ.2.1 18 ((σ.2.1 20 x3.toNatClampNeg).toNatClampNeg) ≤ x2 then x2 else σ.2.1 18 ((σ.2.1 20 x3.toNatClampNeg).toNatClampNeg)) : Int32) = x2 from by simp only [if_true, if_false, not_true_eq_false, not_false_eq_true, true_and, and_true, false_and, and_false, true_or, or_true, false_or, or_false, if_pos, if_neg, ite_true, ite_false, f7]) j5
    · skip
      have f8 : (σ.2.1 18 ((σ.2.1 20 x3.toNatClampNeg).toNatClampNeg) ≤ x2) = False := eq_false c6
      refine nE_aload_n dX9_putIn_231 rfl rfl ?_
      refine nE_getC fl_X9_66 sR_0 rfl dX9_putIn_232 ?_
      refine nE_iload dX9_putIn_235 rfl ?_
      refine nG_iald (j := (σ.2.1 20 x3.toNatClampNeg).toNatClampNeg) sR_18 rfl dX9_putIn_237 ⟨g3, ?_⟩
      refine nE_goto (tgt := 242) dX9_putIn_238 (by decide) ?_
      exact nh_topi (show ((if σ.2.1 18 ((σ.2.1 20 x3.toNatClampNeg).toNatClampNeg) ≤ x2 then x2 else σ.2.1 18 ((σ.2.1 20 x3.toNatClampNeg).toNatClampNeg)) : Int32) = σ.2.1 18 ((σ.2.1 20 x3.toNatClampNeg).toNatClampNeg) from by simp only [if_true, if_false, not_true_eq_false, not_false_eq_true, true_and, and_true, false_and, and_false, true_or, or_true, false_or, or_false, if_pos, if_neg, ite_true, ite_false, f8]) j5
set_option maxRecDepth 20000 in
theorem sg_X9_putIn_126 (x1 : Int32) (x2 : Int32) (x3 : Int32) {σ : nh_S} {Q : Option Value → nh_S → Prop} (h : (x3 ≤ 0 → ((vp_in x3 12) ∧ nh_E kX9_putIn 7 [some (.ref 0), some (.int x1), some (.int (x2 + 1)), none, none] [] (nh_si (nh_wa σ 20 x3.toNatClampNeg x2) 0 31 ((σ.1 0 31) + 1)) Q)) ∧ (¬ (x3 ≤ 0) → ((vp_in (x3 - 1) 12) ∧ (vp_in (σ.2.1 20 ((x3 - 1).toNatClampNeg)) 12) ∧ (vp_in x2 12) ∧ (σ.2.1 19 ((σ.2.1 20 ((x3 - 1).toNatClampNeg)).toNatClampNeg) ≤ σ.2.1 19 x2.toNatClampNeg → ((vp_in x3 12) ∧ nh_E kX9_putIn 7 [some (.ref 0), some (.int x1), some (.int (x2 + 1)), none, none] [] (nh_si (nh_wa σ 20 x3.toNatClampNeg x2) 0 31 ((σ.1 0 31) + 1)) Q)) ∧ (¬ (σ.2.1 19 ((σ.2.1 20 ((x3 - 1).toNatClampNeg)).toNatClampNeg) ≤ σ.2.1 19 x2.toNatClampNeg) → ((vp_in x3 12) ∧ nh_E kX9_putIn 126 [some (.ref 0), some (.int x1), some (.int x2), some (.int (x3 + (-1))), none] [] (nh_wa σ 20 x3.toNatClampNeg (σ.2.1 20 ((x3 - 1).toNatClampNeg))) Q))))) : nh_E kX9_putIn 126 [some (.ref 0), some (.int x1), some (.int x2), some (.int x3), none] [] σ Q := by
  refine nE_iload_n dX9_putIn_126 rfl rfl ?_
  refine nE_if_le (tgt := 172) dX9_putIn_127 (by decide) ⟨fun c1 => ?_, fun c1 => ?_⟩
  · have h := h.1 c1
    refine nE_aload_n dX9_putIn_172 rfl rfl ?_
    refine nE_getC fl_X9_72 sR_0 rfl dX9_putIn_173 ?_
    refine nE_iload_n dX9_putIn_176 rfl rfl ?_
    refine nE_iload_n dX9_putIn_177 rfl rfl ?_
    obtain ⟨g2, h⟩ := h
    refine nG_iast (j := x3.toNatClampNeg) sR_20 rfl dX9_putIn_178 ⟨g2, ?_⟩
    refine nE_aload_n dX9_putIn_179 rfl rfl ?_
    refine nE_dup dX9_putIn_180 rfl ?_
    refine nE_getI fl_X9_226 sR_0 rfl dX9_putIn_181 ?_
    refine nE_iconst (v := 1) dX9_putIn_184 (by decide) ?_
    refine nE_iadd dX9_putIn_185 ?_
    refine nE_putI fl_X9_226 sR_0 rfl ⟨rfl, rfl⟩ dX9_putIn_186 ?_
    refine nE_iinc (v := x2 + 1) dX9_putIn_189 rfl rfl (by decide) rfl ?_
    refine nE_goto (tgt := 7) dX9_putIn_192 (by decide) ?_
    refine nE_weak 3 ?_
    exact h
  · have h := h.2 c1
    refine nE_aload_n dX9_putIn_130 rfl rfl ?_
    refine nE_getC fl_X9_69 sR_0 rfl dX9_putIn_131 ?_
    refine nE_aload_n dX9_putIn_134 rfl rfl ?_
    refine nE_getC fl_X9_72 sR_0 rfl dX9_putIn_135 ?_
    refine nE_iload_n dX9_putIn_138 rfl rfl ?_
    refine nE_iconst (v := 1) dX9_putIn_139 (by decide) ?_
    refine nE_isub dX9_putIn_140 ?_
    obtain ⟨g3, h⟩ := h
    refine nG_iald (j := (x3 - 1).toNatClampNeg) sR_20 rfl dX9_putIn_141 ⟨g3, ?_⟩
    obtain ⟨g4, h⟩ := h
    refine nG_iald (j := (σ.2.1 20 ((x3 - 1).toNatClampNeg)).toNatClampNeg) sR_19 rfl dX9_putIn_142 ⟨g4, ?_⟩
    refine nE_aload_n dX9_putIn_143 rfl rfl ?_
    refine nE_getC fl_X9_69 sR_0 rfl dX9_putIn_144 ?_
    refine nE_iload_n dX9_putIn_147 rfl rfl ?_
    obtain ⟨g5, h⟩ := h
    refine nG_iald (j := x2.toNatClampNeg) sR_19 rfl dX9_putIn_148 ⟨g5, ?_⟩
    refine nE_icmp_le (tgt := 172) dX9_putIn_149 (by decide) ⟨fun c6 => ?_, fun c6 => ?_⟩
    · have h := h.1 c6
      refine nE_aload_n dX9_putIn_172 rfl rfl ?_
      refine nE_getC fl_X9_72 sR_0 rfl dX9_putIn_173 ?_
      refine nE_iload_n dX9_putIn_176 rfl rfl ?_
      refine nE_iload_n dX9_putIn_177 rfl rfl ?_
      obtain ⟨g7, h⟩ := h
      refine nG_iast (j := x3.toNatClampNeg) sR_20 rfl dX9_putIn_178 ⟨g7, ?_⟩
      refine nE_aload_n dX9_putIn_179 rfl rfl ?_
      refine nE_dup dX9_putIn_180 rfl ?_
      refine nE_getI fl_X9_226 sR_0 rfl dX9_putIn_181 ?_
      refine nE_iconst (v := 1) dX9_putIn_184 (by decide) ?_
      refine nE_iadd dX9_putIn_185 ?_
      refine nE_putI fl_X9_226 sR_0 rfl ⟨rfl, rfl⟩ dX9_putIn_186 ?_
      refine nE_iinc (v := x2 + 1) dX9_putIn_189 rfl rfl (by decide) rfl ?_
      refine nE_goto (tgt := 7) dX9_putIn_192 (by decide) ?_
      refine nE_weak 3 ?_
      exact h
    · have h := h.2 c6
      refine nE_aload_n dX9_putIn_152 rfl rfl ?_
      refine nE_getC fl_X9_72 sR_0 rfl dX9_putIn_153 ?_
      refine nE_iload_n dX9_putIn_156 rfl rfl ?_
      refine nE_aload_n dX9_putIn_157 rfl rfl ?_
      refine nE_getC fl_X9_72 sR_0 rfl dX9_putIn_158 ?_
      refine nE_iload_n dX9_putIn_161 rfl rfl ?_
      refine nE_iconst (v := 1) dX9_putIn_162 (by decide) ?_
      refine nE_isub dX9_putIn_163 ?_
      refine nG_iald (j := (x3 - 1).toNatClampNeg) sR_20 rfl dX9_putIn_164 ⟨g3, ?_⟩
      obtain ⟨g8, h⟩ := h
      refine nG_iast (j := x3.toNatClampNeg) sR_20 rfl dX9_putIn_165 ⟨g8, ?_⟩
      refine nE_iinc (v := x3 + (-1)) dX9_putIn_166 rfl rfl (by decide) rfl ?_
      refine nE_goto (tgt := 126) dX9_putIn_169 (by decide) ?_
      exact h
set_option maxRecDepth 20000 in
theorem sg_X9_standsBy_0 (x1 : Int32) (x2 : Int32) (x3 : Int32) {σ : nh_S} {Q : Option Value → nh_S → Prop} (h : nh_E kX9_burn 0 [some (.ref 0), some (.int x1), some (.int x2), some (.int x3), none, none, none, none] [] σ (nh_qv fun τ1 => nh_E kX9_comeAll 0 [some (.ref 0), none] [] τ1 (nh_qv fun τ4 => nh_E kX9_putIn 0 [some (.ref 0), some (.int ((1 <<< ((τ4.2.1 9 1) &&& 31)) - 1)), none, none, none] [] τ4 (nh_qi fun r8 τ7 => Q (some (.int r8)) τ7)))) : nh_E kX9_standsBy 0 [some (.ref 0), some (.int x1), some (.int x2), some (.int x3)] [] σ Q := by
  refine nE_aload_n dX9_standsBy_0 rfl rfl ?_
  refine nE_iload_n dX9_standsBy_1 rfl rfl ?_
  refine nE_iload_n dX9_standsBy_2 rfl rfl ?_
  refine nE_iload_n dX9_standsBy_3 rfl rfl ?_
  refine nE_callV (As := [.int x1, .int x2, .int x3]) yf_X9_burn ⟨by decide, by decide⟩ rfl rfl sR_0 rfl vl_X9_229 dX9_standsBy_4 rfl rfl (Nat.le_of_ble_eq_true rfl) (Nat.le_of_ble_eq_true rfl) (nE_mono (fun z3 τ1 h => ?_) h)
  obtain ⟨rfl, h⟩ := h
  refine nE_aload_n dX9_standsBy_7 rfl rfl ?_
  refine nE_callV (As := []) yf_X9_comeAll ⟨by decide, by decide⟩ rfl rfl sR_0 rfl vl_X9_233 dX9_standsBy_8 rfl rfl (Nat.le_of_ble_eq_true rfl) (Nat.le_of_ble_eq_true rfl) (nE_mono (fun z6 τ4 h => ?_) h)
  obtain ⟨rfl, h⟩ := h
  refine nE_aload_n dX9_standsBy_11 rfl rfl ?_
  refine nE_aload_n dX9_standsBy_12 rfl rfl ?_
  refine nE_callV (As := []) yf_X9_allParts ⟨by decide, by decide⟩ rfl rfl sR_0 rfl vl_X9_236 dX9_standsBy_13 rfl rfl (Nat.le_of_ble_eq_true rfl) (Nat.le_of_ble_eq_true rfl) (p_X9_allParts ?_)
  refine nE_callV (As := [.int ((1 <<< ((τ4.2.1 9 1) &&& 31)) - 1)]) yf_X9_putIn ⟨by decide, by decide⟩ rfl rfl sR_0 rfl vl_X9_239 dX9_standsBy_16 rfl rfl (Nat.le_of_ble_eq_true rfl) (Nat.le_of_ble_eq_true rfl) (nE_mono (fun z9 τ7 h => ?_) h)
  obtain ⟨r8, rfl, h⟩ := h
  exact nE_iret dX9_standsBy_19 rfl h
set_option maxRecDepth 20000 in
theorem sg_X9_away_0 (x1 : Int32) {σ : nh_S} {Q : Option Value → nh_S → Prop} (h : (¬ (x1 < 0) ∧ ¬ (((1 <<< ((σ.2.1 9 0) &&& 31)) - 1) < x1) → (Q (some (.int (σ.2.1 1 24))) (nh_wa σ 1 24 x1))) ∧ (¬ (¬ (x1 < 0) ∧ ¬ (((1 <<< ((σ.2.1 9 0) &&& 31)) - 1) < x1)) → (Q (some (.int (-1000001))) σ))) : nh_E kX9_away 0 [some (.ref 0), some (.int x1), none] [] σ Q := by
  refine nE_iload_n dX9_away_0 rfl rfl ?_
  refine nE_i2l dX9_away_1 ?_
  refine nE_lconst (v := 0) dX9_away_2 (by decide) ?_
  refine nE_iconst (v := 1) dX9_away_3 (by decide) ?_
  refine nE_aload_n dX9_away_4 rfl rfl ?_
  refine nE_getC fl_X9_35 sR_0 rfl dX9_away_5 ?_
  refine nE_iconst (v := 0) dX9_away_8 (by decide) ?_
  refine nG_iald (j := 0) sR_9 (by decide) dX9_away_9 ⟨(nh_vi (by decide)), ?_⟩
  refine nE_ishl dX9_away_10 ?_
  refine nE_iconst (v := 1) dX9_away_11 (by decide) ?_
  refine nE_isub dX9_away_12 ?_
  refine nE_i2l dX9_away_13 ?_
  refine nE_callS (As := [.long x1.toInt64, .long 0, .long (((1 <<< ((σ.2.1 9 0) &&& 31)) - 1).toInt64)]) yf_X9_in ⟨by decide, by decide⟩ rfl sl_X9_95 dX9_away_14 rfl rfl (Nat.le_of_ble_eq_true rfl) (Nat.le_of_ble_eq_true rfl) (p_X9_in x1 0 ((1 <<< ((σ.2.1 9 0) &&& 31)) - 1) (by decide) rfl ?_)
  refine nE_ifb_ne (tgt := 23) dX9_away_17 (by decide) ⟨fun c1 => ?_, fun c1 => ?_⟩
  · have h := h.1 c1
    refine nE_aload_n dX9_away_23 rfl rfl ?_
    refine nE_getC fl_X9_7 sR_0 rfl dX9_away_24 ?_
    refine nE_bipush (v := 24) dX9_away_27 (by decide) ?_
    refine nG_iald (j := 24) sR_1 (by decide) dX9_away_29 ⟨(nh_vi (by decide)), ?_⟩
    refine nE_istore_n dX9_away_30 rfl rfl (by decide) ?_
    refine nE_aload_n dX9_away_31 rfl rfl ?_
    refine nE_getC fl_X9_7 sR_0 rfl dX9_away_32 ?_
    refine nE_bipush (v := 24) dX9_away_35 (by decide) ?_
    refine nE_iload_n dX9_away_37 rfl rfl ?_
    refine nG_iast (j := 24) sR_1 (by decide) dX9_away_38 ⟨(nh_vi (by decide)), ?_⟩
    refine nE_iload_n dX9_away_39 rfl rfl ?_
    exact nE_iret dX9_away_40 rfl h
  · have h := h.2 c1
    refine nE_ldc kc_X9_197 dX9_away_20 ?_
    exact nE_iret dX9_away_22 rfl h
set_option maxRecDepth 20000 in
theorem sg_X9_awake_0 (x1 : Int32) (x2 : Int32) {σ : nh_S} {Q : Option Value → nh_S → Prop} (h : (¬ (¬ (x1 < 0) ∧ ¬ ((σ.2.1 9 0) - 1 < x1)) → (Q (some (.int (-1000001))) σ)) ∧ (¬ (x1 < 0) ∧ ¬ ((σ.2.1 9 0) - 1 < x1) → ((¬ (x2 < 0) ∧ ¬ ((σ.2.1 9 0) - 1 < x2) → (nh_E kX9_burn 0 [some (.ref 0), some (.int 0), some (.int x1), some (.int (σ.2.1 1 24)), none, none, none, none] [] σ (nh_qv fun τ3 => (vp_in x2 9) ∧ Q (some (.int (τ3.2.1 15 x2.toNatClampNeg))) τ3))) ∧ (¬ (¬ (x2 < 0) ∧ ¬ ((σ.2.1 9 0) - 1 < x2)) → (Q (some (.int (-1000001))) σ))))) : nh_E kX9_awake 0 [some (.ref 0), some (.int x1), some (.int x2)] [] σ Q := by
  refine nE_aload_n dX9_awake_0 rfl rfl ?_
  refine nE_iload_n dX9_awake_1 rfl rfl ?_
  refine nE_callV (As := [.int x1]) yf_X9_isHouse ⟨by decide, by decide⟩ rfl rfl sR_0 rfl vl_X9_193 dX9_awake_2 rfl rfl (Nat.le_of_ble_eq_true rfl) (Nat.le_of_ble_eq_true rfl) (p_X9_isHouse _ ?_)
  refine nE_ifb_eq (tgt := 16) dX9_awake_5 (by decide) ⟨fun c1 => ?_, fun c1 => ?_⟩
  · have h := h.1 c1
    refine nE_ldc kc_X9_197 dX9_awake_16 ?_
    exact nE_iret dX9_awake_18 rfl h
  · have h := h.2 c1
    refine nE_aload_n dX9_awake_8 rfl rfl ?_
    refine nE_iload_n dX9_awake_9 rfl rfl ?_
    refine nE_callV (As := [.int x2]) yf_X9_isHouse ⟨by decide, by decide⟩ rfl rfl sR_0 rfl vl_X9_193 dX9_awake_10 rfl rfl (Nat.le_of_ble_eq_true rfl) (Nat.le_of_ble_eq_true rfl) (p_X9_isHouse _ ?_)
    refine nE_ifb_ne (tgt := 19) dX9_awake_13 (by decide) ⟨fun c2 => ?_, fun c2 => ?_⟩
    · have h := h.1 c2
      refine nE_aload_n dX9_awake_19 rfl rfl ?_
      refine nE_iconst (v := 0) dX9_awake_20 (by decide) ?_
      refine nE_iload_n dX9_awake_21 rfl rfl ?_
      refine nE_aload_n dX9_awake_22 rfl rfl ?_
      refine nE_getC fl_X9_7 sR_0 rfl dX9_awake_23 ?_
      refine nE_bipush (v := 24) dX9_awake_26 (by decide) ?_
      refine nG_iald (j := 24) sR_1 (by decide) dX9_awake_28 ⟨(nh_vi (by decide)), ?_⟩
      refine nE_callV (As := [.int 0, .int x1, .int (σ.2.1 1 24)]) yf_X9_burn ⟨by decide, by decide⟩ rfl rfl sR_0 rfl vl_X9_229 dX9_awake_29 rfl rfl (Nat.le_of_ble_eq_true rfl) (Nat.le_of_ble_eq_true rfl) (nE_mono (fun z5 τ3 h => ?_) h)
      obtain ⟨rfl, h⟩ := h
      refine nE_aload_n dX9_awake_32 rfl rfl ?_
      refine nE_getC fl_X9_57 sR_0 rfl dX9_awake_33 ?_
      refine nE_iload_n dX9_awake_36 rfl rfl ?_
      obtain ⟨g6, h⟩ := h
      refine nG_iald (j := x2.toNatClampNeg) sR_15 rfl dX9_awake_37 ⟨g6, ?_⟩
      exact nE_iret dX9_awake_38 rfl h
    · have h := h.2 c2
      refine nE_ldc kc_X9_197 dX9_awake_16 ?_
      exact nE_iret dX9_awake_18 rfl h
set_option maxRecDepth 20000 in
theorem sg_X9_comes_0 (x1 : Int32) (x2 : Int32) (x3 : Int32) {σ : nh_S} {Q : Option Value → nh_S → Prop} (h : (¬ (¬ (x1 < 0) ∧ ¬ ((σ.2.1 9 0) - 1 < x1)) → (Q (some (.int (-1000001))) σ)) ∧ (¬ (x1 < 0) ∧ ¬ ((σ.2.1 9 0) - 1 < x1) → ((¬ (¬ (x2 < 0) ∧ ¬ ((σ.2.1 9 0) - 1 < x2)) → (Q (some (.int (-1000001))) σ)) ∧ (¬ (x2 < 0) ∧ ¬ ((σ.2.1 9 0) - 1 < x2) → ((¬ (x3 < 0) ∧ ¬ ((σ.2.1 9 1) - 1 < x3) → (nh_E kX9_burn 0 [some (.ref 0), some (.int x1), some (.int x2), some (.int (σ.2.1 1 24)), none, none, none, none] [] σ (nh_qv fun τ4 => nh_E kX9_comeAll 0 [some (.ref 0), none] [] τ4 (nh_qv fun τ7 => (vp_in x3 12) ∧ Q (some (.int (τ7.2.1 18 x3.toNatClampNeg))) τ7)))) ∧ (¬ (¬ (x3 < 0) ∧ ¬ ((σ.2.1 9 1) - 1 < x3)) → (Q (some (.int (-1000001))) σ))))))) : nh_E kX9_comes 0 [some (.ref 0), some (.int x1), some (.int x2), some (.int x3)] [] σ Q := by
  refine nE_aload_n dX9_comes_0 rfl rfl ?_
  refine nE_iload_n dX9_comes_1 rfl rfl ?_
  refine nE_callV (As := [.int x1]) yf_X9_isHouse ⟨by decide, by decide⟩ rfl rfl sR_0 rfl vl_X9_193 dX9_comes_2 rfl rfl (Nat.le_of_ble_eq_true rfl) (Nat.le_of_ble_eq_true rfl) (p_X9_isHouse _ ?_)
  refine nE_ifb_eq (tgt := 24) dX9_comes_5 (by decide) ⟨fun c1 => ?_, fun c1 => ?_⟩
  · have h := h.1 c1
    refine nE_ldc kc_X9_197 dX9_comes_24 ?_
    exact nE_iret dX9_comes_26 rfl h
  · have h := h.2 c1
    refine nE_aload_n dX9_comes_8 rfl rfl ?_
    refine nE_iload_n dX9_comes_9 rfl rfl ?_
    refine nE_callV (As := [.int x2]) yf_X9_isHouse ⟨by decide, by decide⟩ rfl rfl sR_0 rfl vl_X9_193 dX9_comes_10 rfl rfl (Nat.le_of_ble_eq_true rfl) (Nat.le_of_ble_eq_true rfl) (p_X9_isHouse _ ?_)
    refine nE_ifb_eq (tgt := 24) dX9_comes_13 (by decide) ⟨fun c2 => ?_, fun c2 => ?_⟩
    · have h := h.1 c2
      refine nE_ldc kc_X9_197 dX9_comes_24 ?_
      exact nE_iret dX9_comes_26 rfl h
    · have h := h.2 c2
      refine nE_aload_n dX9_comes_16 rfl rfl ?_
      refine nE_iload_n dX9_comes_17 rfl rfl ?_
      refine nE_callV (As := [.int x3]) yf_X9_isPart ⟨by decide, by decide⟩ rfl rfl sR_0 rfl vl_X9_206 dX9_comes_18 rfl rfl (Nat.le_of_ble_eq_true rfl) (Nat.le_of_ble_eq_true rfl) (p_X9_isPart _ ?_)
      refine nE_ifb_ne (tgt := 27) dX9_comes_21 (by decide) ⟨fun c3 => ?_, fun c3 => ?_⟩
      · have h := h.1 c3
        refine nE_aload_n dX9_comes_27 rfl rfl ?_
        refine nE_iload_n dX9_comes_28 rfl rfl ?_
        refine nE_iload_n dX9_comes_29 rfl rfl ?_
        refine nE_aload_n dX9_comes_30 rfl rfl ?_
        refine nE_getC fl_X9_7 sR_0 rfl dX9_comes_31 ?_
        refine nE_bipush (v := 24) dX9_comes_34 (by decide) ?_
        refine nG_iald (j := 24) sR_1 (by decide) dX9_comes_36 ⟨(nh_vi (by decide)), ?_⟩
        refine nE_callV (As := [.int x1, .int x2, .int (σ.2.1 1 24)]) yf_X9_burn ⟨by decide, by decide⟩ rfl rfl sR_0 rfl vl_X9_229 dX9_comes_37 rfl rfl (Nat.le_of_ble_eq_true rfl) (Nat.le_of_ble_eq_true rfl) (nE_mono (fun z6 τ4 h => ?_) h)
        obtain ⟨rfl, h⟩ := h
        refine nE_aload_n dX9_comes_40 rfl rfl ?_
        refine nE_callV (As := []) yf_X9_comeAll ⟨by decide, by decide⟩ rfl rfl sR_0 rfl vl_X9_233 dX9_comes_41 rfl rfl (Nat.le_of_ble_eq_true rfl) (Nat.le_of_ble_eq_true rfl) (nE_mono (fun z9 τ7 h => ?_) h)
        obtain ⟨rfl, h⟩ := h
        refine nE_aload_n dX9_comes_44 rfl rfl ?_
        refine nE_getC fl_X9_66 sR_0 rfl dX9_comes_45 ?_
        refine nE_iload_n dX9_comes_48 rfl rfl ?_
        obtain ⟨g10, h⟩ := h
        refine nG_iald (j := x3.toNatClampNeg) sR_18 rfl dX9_comes_49 ⟨g10, ?_⟩
        exact nE_iret dX9_comes_50 rfl h
      · have h := h.2 c3
        refine nE_ldc kc_X9_197 dX9_comes_24 ?_
        exact nE_iret dX9_comes_26 rfl h
set_option maxRecDepth 20000 in
theorem sg_X9_stands_0 (x1 : Int32) (x2 : Int32) {σ : nh_S} {Q : Option Value → nh_S → Prop} (h : (¬ (¬ (x1 < 0) ∧ ¬ ((σ.2.1 9 0) - 1 < x1)) → (Q (some (.int (-1000001))) σ)) ∧ (¬ (x1 < 0) ∧ ¬ ((σ.2.1 9 0) - 1 < x1) → ((¬ (¬ (x2 < 0) ∧ ¬ ((σ.2.1 9 0) - 1 < x2)) → (Q (some (.int (-1000001))) σ)) ∧ (¬ (x2 < 0) ∧ ¬ ((σ.2.1 9 0) - 1 < x2) → (nh_E kX9_standsBy 0 [some (.ref 0), some (.int x1), some (.int x2), some (.int (σ.2.1 1 24))] [] σ (nh_qi fun r4 τ3 => Q (some (.int r4)) τ3)))))) : nh_E kX9_stands 0 [some (.ref 0), some (.int x1), some (.int x2)] [] σ Q := by
  refine nE_aload_n dX9_stands_0 rfl rfl ?_
  refine nE_iload_n dX9_stands_1 rfl rfl ?_
  refine nE_callV (As := [.int x1]) yf_X9_isHouse ⟨by decide, by decide⟩ rfl rfl sR_0 rfl vl_X9_193 dX9_stands_2 rfl rfl (Nat.le_of_ble_eq_true rfl) (Nat.le_of_ble_eq_true rfl) (p_X9_isHouse _ ?_)
  refine nE_ifb_eq (tgt := 32) dX9_stands_5 (by decide) ⟨fun c1 => ?_, fun c1 => ?_⟩
  · have h := h.1 c1
    refine nE_ldc kc_X9_197 dX9_stands_32 ?_
    exact nE_iret dX9_stands_34 rfl h
  · have h := h.2 c1
    refine nE_aload_n dX9_stands_8 rfl rfl ?_
    refine nE_iload_n dX9_stands_9 rfl rfl ?_
    refine nE_callV (As := [.int x2]) yf_X9_isHouse ⟨by decide, by decide⟩ rfl rfl sR_0 rfl vl_X9_193 dX9_stands_10 rfl rfl (Nat.le_of_ble_eq_true rfl) (Nat.le_of_ble_eq_true rfl) (p_X9_isHouse _ ?_)
    refine nE_ifb_eq (tgt := 32) dX9_stands_13 (by decide) ⟨fun c2 => ?_, fun c2 => ?_⟩
    · have h := h.1 c2
      refine nE_ldc kc_X9_197 dX9_stands_32 ?_
      exact nE_iret dX9_stands_34 rfl h
    · have h := h.2 c2
      refine nE_aload_n dX9_stands_16 rfl rfl ?_
      refine nE_iload_n dX9_stands_17 rfl rfl ?_
      refine nE_iload_n dX9_stands_18 rfl rfl ?_
      refine nE_aload_n dX9_stands_19 rfl rfl ?_
      refine nE_getC fl_X9_7 sR_0 rfl dX9_stands_20 ?_
      refine nE_bipush (v := 24) dX9_stands_23 (by decide) ?_
      refine nG_iald (j := 24) sR_1 (by decide) dX9_stands_25 ⟨(nh_vi (by decide)), ?_⟩
      refine nE_callV (As := [.int x1, .int x2, .int (σ.2.1 1 24)]) yf_X9_standsBy ⟨by decide, by decide⟩ rfl rfl sR_0 rfl vl_X9_242 dX9_stands_26 rfl rfl (Nat.le_of_ble_eq_true rfl) (Nat.le_of_ble_eq_true rfl) (nE_mono (fun z5 τ3 h => ?_) h)
      obtain ⟨r4, rfl, h⟩ := h
      refine nE_goto (tgt := 34) dX9_stands_29 (by decide) ?_
      exact nE_iret dX9_stands_34 rfl h
set_option maxRecDepth 20000 in
theorem sg_X9_put_0 (x1 : Int32) (x2 : Int32) (x3 : Int32) {σ : nh_S} {Q : Option Value → nh_S → Prop} (h : (¬ (¬ (x1 < 0) ∧ ¬ ((σ.2.1 9 0) - 1 < x1)) → (Q (some (.int (-1000001))) σ)) ∧ (¬ (x1 < 0) ∧ ¬ ((σ.2.1 9 0) - 1 < x1) → ((¬ (x2 < 0) ∧ ¬ ((σ.2.1 9 0) - 1 < x2) → (nh_E kX9_standsBy 0 [some (.ref 0), some (.int x1), some (.int x2), some (.int (σ.2.1 1 24))] [] σ (nh_qi fun r4 τ3 => ((¬ (r4 < 0) → ((¬ (x3 < 0) ∧ ¬ (((τ3.1 0 31) - 1) < x3)) → (vp_in x3 12)))) ∧ Q (some (.int (if r4 < 0 then (-1) else (if ¬ (x3 < 0) ∧ ¬ (((τ3.1 0 31) - 1) < x3) then τ3.2.1 20 x3.toNatClampNeg else (-1))))) τ3))) ∧ (¬ (¬ (x2 < 0) ∧ ¬ ((σ.2.1 9 0) - 1 < x2)) → (Q (some (.int (-1000001))) σ))))) : nh_E kX9_put 0 [some (.ref 0), some (.int x1), some (.int x2), some (.int x3), none] [] σ Q := by
  refine nE_aload_n dX9_put_0 rfl rfl ?_
  refine nE_iload_n dX9_put_1 rfl rfl ?_
  refine nE_callV (As := [.int x1]) yf_X9_isHouse ⟨by decide, by decide⟩ rfl rfl sR_0 rfl vl_X9_193 dX9_put_2 rfl rfl (Nat.le_of_ble_eq_true rfl) (Nat.le_of_ble_eq_true rfl) (p_X9_isHouse _ ?_)
  refine nE_ifb_eq (tgt := 16) dX9_put_5 (by decide) ⟨fun c1 => ?_, fun c1 => ?_⟩
  · have h := h.1 c1
    refine nE_ldc kc_X9_197 dX9_put_16 ?_
    exact nE_iret dX9_put_18 rfl h
  · have h := h.2 c1
    refine nE_aload_n dX9_put_8 rfl rfl ?_
    refine nE_iload_n dX9_put_9 rfl rfl ?_
    refine nE_callV (As := [.int x2]) yf_X9_isHouse ⟨by decide, by decide⟩ rfl rfl sR_0 rfl vl_X9_193 dX9_put_10 rfl rfl (Nat.le_of_ble_eq_true rfl) (Nat.le_of_ble_eq_true rfl) (p_X9_isHouse _ ?_)
    refine nE_ifb_ne (tgt := 19) dX9_put_13 (by decide) ⟨fun c2 => ?_, fun c2 => ?_⟩
    · have h := h.1 c2
      refine nE_aload_n dX9_put_19 rfl rfl ?_
      refine nE_iload_n dX9_put_20 rfl rfl ?_
      refine nE_iload_n dX9_put_21 rfl rfl ?_
      refine nE_aload_n dX9_put_22 rfl rfl ?_
      refine nE_getC fl_X9_7 sR_0 rfl dX9_put_23 ?_
      refine nE_bipush (v := 24) dX9_put_26 (by decide) ?_
      refine nG_iald (j := 24) sR_1 (by decide) dX9_put_28 ⟨(nh_vi (by decide)), ?_⟩
      refine nE_callV (As := [.int x1, .int x2, .int (σ.2.1 1 24)]) yf_X9_standsBy ⟨by decide, by decide⟩ rfl rfl sR_0 rfl vl_X9_242 dX9_put_29 rfl rfl (Nat.le_of_ble_eq_true rfl) (Nat.le_of_ble_eq_true rfl) (nE_mono (fun z5 τ3 h => ?_) h)
      obtain ⟨r4, rfl, h⟩ := h
      refine nE_istore dX9_put_32 rfl (by decide) ?_
      refine nE_iload dX9_put_34 rfl ?_
      obtain ⟨u7, h⟩ := h
      have j8 : nh_E kX9_put 65 [some (.ref 0), some (.int x1), some (.int x2), some (.int x3), some (.int r4)] [.int (if r4 < 0 then (-1) else (if ¬ (x3 < 0) ∧ ¬ (((τ3.1 0 31) - 1) < x3) then τ3.2.1 20 x3.toNatClampNeg else (-1)))] τ3 Q := by
        exact nE_iret dX9_put_65 rfl h
      have u9 := u7
      refine nE_if_lt (tgt := 64) dX9_put_36 (by decide) ⟨fun c10 => ?_, fun c10 => ?_⟩
      · skip
        have f11 : (r4 < 0) = True := eq_true c10
        refine nE_iconst (v := (-1)) dX9_put_64 (by decide) ?_
        exact nh_topi (show ((if r4 < 0 then (-1) else (if ¬ (x3 < 0) ∧ ¬ (((τ3.1 0 31) - 1) < x3) then τ3.2.1 20 x3.toNatClampNeg else (-1))) : Int32) = (-1) from by simp only [if_true, if_false, not_true_eq_false, not_false_eq_true, true_and, and_true, false_and, and_false, true_or, or_true, false_or, or_false, if_pos, if_neg, ite_true, ite_false, f11]) j8
      · skip
        have f12 : (r4 < 0) = False := eq_false c10
        have u13 := (u9 c10)
        refine nE_iload_n dX9_put_39 rfl rfl ?_
        refine nE_i2l dX9_put_40 ?_
        refine nE_lconst (v := 0) dX9_put_41 (by decide) ?_
        refine nE_aload_n dX9_put_42 rfl rfl ?_
        refine nE_getI fl_X9_226 sR_0 rfl dX9_put_43 ?_
        refine nE_iconst (v := 1) dX9_put_46 (by decide) ?_
        refine nE_isub dX9_put_47 ?_
        refine nE_i2l dX9_put_48 ?_
        refine nE_callS (As := [.long x3.toInt64, .long 0, .long (((τ3.1 0 31) - 1).toInt64)]) yf_X9_in ⟨by decide, by decide⟩ rfl sl_X9_95 dX9_put_49 rfl rfl (Nat.le_of_ble_eq_true rfl) (Nat.le_of_ble_eq_true rfl) (p_X9_in x3 0 ((τ3.1 0 31) - 1) (by decide) rfl ?_)
        refine nE_ifb_eq (tgt := 64) dX9_put_52 (by decide) ⟨fun c14 => ?_, fun c14 => ?_⟩
        · skip
          have f15 : (¬ (x3 < 0) ∧ ¬ (((τ3.1 0 31) - 1) < x3)) = False := eq_false c14
          refine nE_iconst (v := (-1)) dX9_put_64 (by decide) ?_
          exact nh_topi (show ((if r4 < 0 then (-1) else (if ¬ (x3 < 0) ∧ ¬ (((τ3.1 0 31) - 1) < x3) then τ3.2.1 20 x3.toNatClampNeg else (-1))) : Int32) = (-1) from by simp only [if_true, if_false, not_true_eq_false, not_false_eq_true, true_and, and_true, false_and, and_false, true_or, or_true, false_or, or_false, if_pos, if_neg, ite_true, ite_false, f12, f15]) j8
        · skip
          have f16 : (¬ (x3 < 0) ∧ ¬ (((τ3.1 0 31) - 1) < x3)) = True := eq_true c14
          have g6 := (u13 c14)
          refine nE_aload_n dX9_put_55 rfl rfl ?_
          refine nE_getC fl_X9_72 sR_0 rfl dX9_put_56 ?_
          refine nE_iload_n dX9_put_59 rfl rfl ?_
          refine nG_iald (j := x3.toNatClampNeg) sR_20 rfl dX9_put_60 ⟨g6, ?_⟩
          refine nE_goto (tgt := 65) dX9_put_61 (by decide) ?_
          exact nh_topi (show ((if r4 < 0 then (-1) else (if ¬ (x3 < 0) ∧ ¬ (((τ3.1 0 31) - 1) < x3) then τ3.2.1 20 x3.toNatClampNeg else (-1))) : Int32) = τ3.2.1 20 x3.toNatClampNeg from by simp only [if_true, if_false, not_true_eq_false, not_false_eq_true, true_and, and_true, false_and, and_false, true_or, or_true, false_or, or_false, if_pos, if_neg, ite_true, ite_false, f12, f16]) j8
    · have h := h.2 c2
      refine nE_ldc kc_X9_197 dX9_put_16 ?_
      exact nE_iret dX9_put_18 rfl h
set_option maxRecDepth 20000 in
theorem sg_X9_waited_0 (x1 : Int32) (x2 : Int32) {σ : nh_S} {Q : Option Value → nh_S → Prop} (h : (¬ (¬ (x1 < 0) ∧ ¬ ((σ.2.1 9 0) - 1 < x1)) → (Q (some (.int (-1000001))) σ)) ∧ (¬ (x1 < 0) ∧ ¬ ((σ.2.1 9 0) - 1 < x1) → ((¬ (x2 < 0) ∧ ¬ ((σ.2.1 9 0) - 1 < x2) → (nh_E kX9_standsBy 0 [some (.ref 0), some (.int x1), some (.int x2), some (.int (σ.2.1 1 24))] [] σ (nh_qi fun r4 τ3 => nh_E kX9_waited 39 [some (.ref 0), none, none, some (.int r4), some (.int (-1)), some (.int 0), none, none] [] τ3 Q))) ∧ (¬ (¬ (x2 < 0) ∧ ¬ ((σ.2.1 9 0) - 1 < x2)) → (Q (some (.int (-1000001))) σ))))) : nh_E kX9_waited 0 [some (.ref 0), some (.int x1), some (.int x2), none, none, none, none, none] [] σ Q := by
  refine nE_aload_n dX9_waited_0 rfl rfl ?_
  refine nE_iload_n dX9_waited_1 rfl rfl ?_
  refine nE_callV (As := [.int x1]) yf_X9_isHouse ⟨by decide, by decide⟩ rfl rfl sR_0 rfl vl_X9_193 dX9_waited_2 rfl rfl (Nat.le_of_ble_eq_true rfl) (Nat.le_of_ble_eq_true rfl) (p_X9_isHouse _ ?_)
  refine nE_ifb_eq (tgt := 16) dX9_waited_5 (by decide) ⟨fun c1 => ?_, fun c1 => ?_⟩
  · have h := h.1 c1
    refine nE_ldc kc_X9_197 dX9_waited_16 ?_
    exact nE_iret dX9_waited_18 rfl h
  · have h := h.2 c1
    refine nE_aload_n dX9_waited_8 rfl rfl ?_
    refine nE_iload_n dX9_waited_9 rfl rfl ?_
    refine nE_callV (As := [.int x2]) yf_X9_isHouse ⟨by decide, by decide⟩ rfl rfl sR_0 rfl vl_X9_193 dX9_waited_10 rfl rfl (Nat.le_of_ble_eq_true rfl) (Nat.le_of_ble_eq_true rfl) (p_X9_isHouse _ ?_)
    refine nE_ifb_ne (tgt := 19) dX9_waited_13 (by decide) ⟨fun c2 => ?_, fun c2 => ?_⟩
    · have h := h.1 c2
      refine nE_aload_n dX9_waited_19 rfl rfl ?_
      refine nE_iload_n dX9_waited_20 rfl rfl ?_
      refine nE_iload_n dX9_waited_21 rfl rfl ?_
      refine nE_aload_n dX9_waited_22 rfl rfl ?_
      refine nE_getC fl_X9_7 sR_0 rfl dX9_waited_23 ?_
      refine nE_bipush (v := 24) dX9_waited_26 (by decide) ?_
      refine nG_iald (j := 24) sR_1 (by decide) dX9_waited_28 ⟨(nh_vi (by decide)), ?_⟩
      refine nE_callV (As := [.int x1, .int x2, .int (σ.2.1 1 24)]) yf_X9_standsBy ⟨by decide, by decide⟩ rfl rfl sR_0 rfl vl_X9_242 dX9_waited_29 rfl rfl (Nat.le_of_ble_eq_true rfl) (Nat.le_of_ble_eq_true rfl) (nE_mono (fun z5 τ3 h => ?_) h)
      obtain ⟨r4, rfl, h⟩ := h
      refine nE_istore_n dX9_waited_32 rfl rfl (by decide) ?_
      refine nE_iconst (v := (-1)) dX9_waited_33 (by decide) ?_
      refine nE_istore dX9_waited_34 rfl (by decide) ?_
      refine nE_iconst (v := 0) dX9_waited_36 (by decide) ?_
      refine nE_istore dX9_waited_37 rfl (by decide) ?_
      refine nE_weak 1 ?_
      refine nE_weak 2 ?_
      exact h
    · have h := h.2 c2
      refine nE_ldc kc_X9_197 dX9_waited_16 ?_
      exact nE_iret dX9_waited_18 rfl h
set_option maxRecDepth 20000 in
theorem sg_X9_waited_39 (x3 : Int32) (x4 : Int32) (x5 : Int32) {σ : nh_S} {Q : Option Value → nh_S → Prop} (h : (σ.1 0 31 ≤ x5 → (Q (some (.int x4)) σ)) ∧ (¬ (σ.1 0 31 ≤ x5) → ((x3 < 0 → (Q (some (.int x4)) σ)) ∧ (¬ (x3 < 0) → ((vp_in x5 12) ∧ ((¬ (x5 = 0) → (vp_in (σ.2.1 20 x5.toNatClampNeg) 12) ∧ ((σ.2.1 21 x5.toNatClampNeg = σ.2.1 18 ((σ.2.1 20 x5.toNatClampNeg).toNatClampNeg)) → (vp_in (x5 - 1) 12) ∧ (vp_in (σ.2.1 20 ((x5 - 1).toNatClampNeg)) 24)))) ∧ nh_E kX9_waited 39 [some (.ref 0), none, none, some (.int x3), some (.int (if (x5 = 0) ∨ ((σ.2.1 21 x5.toNatClampNeg = σ.2.1 18 ((σ.2.1 20 x5.toNatClampNeg).toNatClampNeg)) ∧ (¬ (σ.2.1 21 x5.toNatClampNeg ≤ (σ.2.1 21 ((x5 - 1).toNatClampNeg)) + (σ.2.1 6 ((σ.2.1 20 ((x5 - 1).toNatClampNeg)).toNatClampNeg))))) then σ.2.1 20 x5.toNatClampNeg else x4)), some (.int (x5 + 1)), none, none] [] σ Q))))) : nh_E kX9_waited 39 [some (.ref 0), none, none, some (.int x3), some (.int x4), some (.int x5), none, none] [] σ Q := by
  refine nE_iload dX9_waited_39 rfl ?_
  refine nE_aload_n dX9_waited_41 rfl rfl ?_
  refine nE_getI fl_X9_226 sR_0 rfl dX9_waited_42 ?_
  refine nE_icmp_ge (tgt := 144) dX9_waited_45 (by decide) ⟨fun c1 => ?_, fun c1 => ?_⟩
  · have h := h.1 c1
    refine nE_iload dX9_waited_144 rfl ?_
    exact nE_iret dX9_waited_146 rfl h
  · have h := h.2 c1
    refine nE_iload_n dX9_waited_48 rfl rfl ?_
    refine nE_if_lt (tgt := 144) dX9_waited_49 (by decide) ⟨fun c2 => ?_, fun c2 => ?_⟩
    · have h := h.1 c2
      refine nE_iload dX9_waited_144 rfl ?_
      exact nE_iret dX9_waited_146 rfl h
    · have h := h.2 c2
      refine nE_aload_n dX9_waited_52 rfl rfl ?_
      refine nE_getC fl_X9_72 sR_0 rfl dX9_waited_53 ?_
      refine nE_iload dX9_waited_56 rfl ?_
      obtain ⟨g3, h⟩ := h
      refine nG_iald (j := x5.toNatClampNeg) sR_20 rfl dX9_waited_58 ⟨g3, ?_⟩
      refine nE_istore dX9_waited_59 rfl (by decide) ?_
      refine nE_iload dX9_waited_61 rfl ?_
      obtain ⟨u7, h⟩ := h
      have j12 : nh_E kX9_waited 122 [some (.ref 0), none, none, some (.int x3), some (.int x4), some (.int x5), some (.int (σ.2.1 20 x5.toNatClampNeg)), none] [.int (if (x5 = 0) ∨ ((σ.2.1 21 x5.toNatClampNeg = σ.2.1 18 ((σ.2.1 20 x5.toNatClampNeg).toNatClampNeg)) ∧ (¬ (σ.2.1 21 x5.toNatClampNeg ≤ (σ.2.1 21 ((x5 - 1).toNatClampNeg)) + (σ.2.1 6 ((σ.2.1 20 ((x5 - 1).toNatClampNeg)).toNatClampNeg))))) then 1 else 0)] σ Q := by
        refine nE_istore dX9_waited_122 rfl (by decide) ?_
        refine nE_iload dX9_waited_124 rfl ?_
        have j8 : nh_E kX9_waited 136 [some (.ref 0), none, none, some (.int x3), some (.int x4), some (.int x5), some (.int (σ.2.1 20 x5.toNatClampNeg)), some (.int (if (x5 = 0) ∨ ((σ.2.1 21 x5.toNatClampNeg = σ.2.1 18 ((σ.2.1 20 x5.toNatClampNeg).toNatClampNeg)) ∧ (¬ (σ.2.1 21 x5.toNatClampNeg ≤ (σ.2.1 21 ((x5 - 1).toNatClampNeg)) + (σ.2.1 6 ((σ.2.1 20 ((x5 - 1).toNatClampNeg)).toNatClampNeg))))) then 1 else 0))] [.int (if (x5 = 0) ∨ ((σ.2.1 21 x5.toNatClampNeg = σ.2.1 18 ((σ.2.1 20 x5.toNatClampNeg).toNatClampNeg)) ∧ (¬ (σ.2.1 21 x5.toNatClampNeg ≤ (σ.2.1 21 ((x5 - 1).toNatClampNeg)) + (σ.2.1 6 ((σ.2.1 20 ((x5 - 1).toNatClampNeg)).toNatClampNeg))))) then σ.2.1 20 x5.toNatClampNeg else x4)] σ Q := by
          refine nE_istore dX9_waited_136 rfl (by decide) ?_
          refine nE_iinc (v := x5 + 1) dX9_waited_138 rfl rfl (by decide) rfl ?_
          refine nE_goto (tgt := 39) dX9_waited_141 (by decide) ?_
          refine nE_weak 6 ?_
          refine nE_weak 7 ?_
          exact h
        refine nE_ifb_eq (tgt := 134) dX9_waited_126 (by decide) ⟨fun c9 => ?_, fun c9 => ?_⟩
        · skip
          have f10 : ((x5 = 0) ∨ ((σ.2.1 21 x5.toNatClampNeg = σ.2.1 18 ((σ.2.1 20 x5.toNatClampNeg).toNatClampNeg)) ∧ (¬ (σ.2.1 21 x5.toNatClampNeg ≤ (σ.2.1 21 ((x5 - 1).toNatClampNeg)) + (σ.2.1 6 ((σ.2.1 20 ((x5 - 1).toNatClampNeg)).toNatClampNeg)))))) = False := eq_false c9
          refine nE_iload dX9_waited_134 rfl ?_
          exact nh_topi (show ((if (x5 = 0) ∨ ((σ.2.1 21 x5.toNatClampNeg = σ.2.1 18 ((σ.2.1 20 x5.toNatClampNeg).toNatClampNeg)) ∧ (¬ (σ.2.1 21 x5.toNatClampNeg ≤ (σ.2.1 21 ((x5 - 1).toNatClampNeg)) + (σ.2.1 6 ((σ.2.1 20 ((x5 - 1).toNatClampNeg)).toNatClampNeg))))) then σ.2.1 20 x5.toNatClampNeg else x4) : Int32) = x4 from by simp only [if_true, if_false, not_true_eq_false, not_false_eq_true, true_and, and_true, false_and, and_false, true_or, or_true, false_or, or_false, if_pos, if_neg, ite_true, ite_false, f10]) j8
        · skip
          have f11 : ((x5 = 0) ∨ ((σ.2.1 21 x5.toNatClampNeg = σ.2.1 18 ((σ.2.1 20 x5.toNatClampNeg).toNatClampNeg)) ∧ (¬ (σ.2.1 21 x5.toNatClampNeg ≤ (σ.2.1 21 ((x5 - 1).toNatClampNeg)) + (σ.2.1 6 ((σ.2.1 20 ((x5 - 1).toNatClampNeg)).toNatClampNeg)))))) = True := eq_true c9
          refine nE_iload dX9_waited_129 rfl ?_
          refine nE_goto (tgt := 136) dX9_waited_131 (by decide) ?_
          exact nh_topi (show ((if (x5 = 0) ∨ ((σ.2.1 21 x5.toNatClampNeg = σ.2.1 18 ((σ.2.1 20 x5.toNatClampNeg).toNatClampNeg)) ∧ (¬ (σ.2.1 21 x5.toNatClampNeg ≤ (σ.2.1 21 ((x5 - 1).toNatClampNeg)) + (σ.2.1 6 ((σ.2.1 20 ((x5 - 1).toNatClampNeg)).toNatClampNeg))))) then σ.2.1 20 x5.toNatClampNeg else x4) : Int32) = σ.2.1 20 x5.toNatClampNeg from by simp only [if_true, if_false, not_true_eq_false, not_false_eq_true, true_and, and_true, false_and, and_false, true_or, or_true, false_or, or_false, if_pos, if_neg, ite_true, ite_false, f11]) j8
      have u13 := u7
      refine nE_if_eq (tgt := 117) dX9_waited_63 (by decide) ⟨fun c14 => ?_, fun c14 => ?_⟩
      · skip
        have f15 : (x5 = 0) = True := eq_true c14
        refine nE_iconst (v := 1) dX9_waited_117 (by decide) ?_
        refine nE_goto (tgt := 122) dX9_waited_118 (by decide) ?_
        exact nh_topi (show ((if (x5 = 0) ∨ ((σ.2.1 21 x5.toNatClampNeg = σ.2.1 18 ((σ.2.1 20 x5.toNatClampNeg).toNatClampNeg)) ∧ (¬ (σ.2.1 21 x5.toNatClampNeg ≤ (σ.2.1 21 ((x5 - 1).toNatClampNeg)) + (σ.2.1 6 ((σ.2.1 20 ((x5 - 1).toNatClampNeg)).toNatClampNeg))))) then 1 else 0) : Int32) = 1 from by simp only [if_true, if_false, not_true_eq_false, not_false_eq_true, true_and, and_true, false_and, and_false, true_or, or_true, false_or, or_false, if_pos, if_neg, ite_true, ite_false, f15]) j12
      · skip
        have f16 : (x5 = 0) = False := eq_false c14
        obtain ⟨g4, u17⟩ := (u13 c14)
        refine nE_aload_n dX9_waited_66 rfl rfl ?_
        refine nE_getC fl_X9_75 sR_0 rfl dX9_waited_67 ?_
        refine nE_iload dX9_waited_70 rfl ?_
        refine nG_iald (j := x5.toNatClampNeg) sR_21 rfl dX9_waited_72 ⟨g3, ?_⟩
        refine nE_aload_n dX9_waited_73 rfl rfl ?_
        refine nE_getC fl_X9_66 sR_0 rfl dX9_waited_74 ?_
        refine nE_iload dX9_waited_77 rfl ?_
        refine nG_iald (j := (σ.2.1 20 x5.toNatClampNeg).toNatClampNeg) sR_18 rfl dX9_waited_79 ⟨g4, ?_⟩
        refine nE_icmp_ne (tgt := 121) dX9_waited_80 (by decide) ⟨fun c18 => ?_, fun c18 => ?_⟩
        · skip
          have f19 : (σ.2.1 21 x5.toNatClampNeg = σ.2.1 18 ((σ.2.1 20 x5.toNatClampNeg).toNatClampNeg)) = False := eq_false c18
          refine nE_iconst (v := 0) dX9_waited_121 (by decide) ?_
          exact nh_topi (show ((if (x5 = 0) ∨ ((σ.2.1 21 x5.toNatClampNeg = σ.2.1 18 ((σ.2.1 20 x5.toNatClampNeg).toNatClampNeg)) ∧ (¬ (σ.2.1 21 x5.toNatClampNeg ≤ (σ.2.1 21 ((x5 - 1).toNatClampNeg)) + (σ.2.1 6 ((σ.2.1 20 ((x5 - 1).toNatClampNeg)).toNatClampNeg))))) then 1 else 0) : Int32) = 0 from by simp only [if_true, if_false, not_true_eq_false, not_false_eq_true, true_and, and_true, false_and, and_false, true_or, or_true, false_or, or_false, if_pos, if_neg, ite_true, ite_false, f16, f19]) j12
        · skip
          have f20 : (σ.2.1 21 x5.toNatClampNeg = σ.2.1 18 ((σ.2.1 20 x5.toNatClampNeg).toNatClampNeg)) = True := eq_true c18
          obtain ⟨g5, g6⟩ := (u17 c18)
          refine nE_aload_n dX9_waited_83 rfl rfl ?_
          refine nE_getC fl_X9_75 sR_0 rfl dX9_waited_84 ?_
          refine nE_iload dX9_waited_87 rfl ?_
          refine nG_iald (j := x5.toNatClampNeg) sR_21 rfl dX9_waited_89 ⟨g3, ?_⟩
          refine nE_aload_n dX9_waited_90 rfl rfl ?_
          refine nE_getC fl_X9_75 sR_0 rfl dX9_waited_91 ?_
          refine nE_iload dX9_waited_94 rfl ?_
          refine nE_iconst (v := 1) dX9_waited_96 (by decide) ?_
          refine nE_isub dX9_waited_97 ?_
          refine nG_iald (j := (x5 - 1).toNatClampNeg) sR_21 rfl dX9_waited_98 ⟨g5, ?_⟩
          refine nE_aload_n dX9_waited_99 rfl rfl ?_
          refine nE_getC fl_X9_26 sR_0 rfl dX9_waited_100 ?_
          refine nE_aload_n dX9_waited_103 rfl rfl ?_
          refine nE_getC fl_X9_72 sR_0 rfl dX9_waited_104 ?_
          refine nE_iload dX9_waited_107 rfl ?_
          refine nE_iconst (v := 1) dX9_waited_109 (by decide) ?_
          refine nE_isub dX9_waited_110 ?_
          refine nG_iald (j := (x5 - 1).toNatClampNeg) sR_20 rfl dX9_waited_111 ⟨g5, ?_⟩
          refine nG_iald (j := (σ.2.1 20 ((x5 - 1).toNatClampNeg)).toNatClampNeg) sR_6 rfl dX9_waited_112 ⟨g6, ?_⟩
          refine nE_iadd dX9_waited_113 ?_
          refine nE_icmp_le (tgt := 121) dX9_waited_114 (by decide) ⟨fun c21 => ?_, fun c21 => ?_⟩
          · skip
            have f22 : (σ.2.1 21 x5.toNatClampNeg ≤ (σ.2.1 21 ((x5 - 1).toNatClampNeg)) + (σ.2.1 6 ((σ.2.1 20 ((x5 - 1).toNatClampNeg)).toNatClampNeg))) = True := eq_true c21
            refine nE_iconst (v := 0) dX9_waited_121 (by decide) ?_
            exact nh_topi (show ((if (x5 = 0) ∨ ((σ.2.1 21 x5.toNatClampNeg = σ.2.1 18 ((σ.2.1 20 x5.toNatClampNeg).toNatClampNeg)) ∧ (¬ (σ.2.1 21 x5.toNatClampNeg ≤ (σ.2.1 21 ((x5 - 1).toNatClampNeg)) + (σ.2.1 6 ((σ.2.1 20 ((x5 - 1).toNatClampNeg)).toNatClampNeg))))) then 1 else 0) : Int32) = 0 from by simp only [if_true, if_false, not_true_eq_false, not_false_eq_true, true_and, and_true, false_and, and_false, true_or, or_true, false_or, or_false, if_pos, if_neg, ite_true, ite_false, f16, f20, f22]) j12
          · skip
            have f23 : (σ.2.1 21 x5.toNatClampNeg ≤ (σ.2.1 21 ((x5 - 1).toNatClampNeg)) + (σ.2.1 6 ((σ.2.1 20 ((x5 - 1).toNatClampNeg)).toNatClampNeg))) = False := eq_false c21
            refine nE_iconst (v := 1) dX9_waited_117 (by decide) ?_
            refine nE_goto (tgt := 122) dX9_waited_118 (by decide) ?_
            exact nh_topi (show ((if (x5 = 0) ∨ ((σ.2.1 21 x5.toNatClampNeg = σ.2.1 18 ((σ.2.1 20 x5.toNatClampNeg).toNatClampNeg)) ∧ (¬ (σ.2.1 21 x5.toNatClampNeg ≤ (σ.2.1 21 ((x5 - 1).toNatClampNeg)) + (σ.2.1 6 ((σ.2.1 20 ((x5 - 1).toNatClampNeg)).toNatClampNeg))))) then 1 else 0) : Int32) = 1 from by simp only [if_true, if_false, not_true_eq_false, not_false_eq_true, true_and, and_true, false_and, and_false, true_or, or_true, false_or, or_false, if_pos, if_neg, ite_true, ite_false, f16, f20, f23]) j12
set_option maxRecDepth 20000 in
theorem sg_X9_oddsOf_0 (x1 : Int32) (x2 : Int32) (x3 : Int32) {σ : nh_S} {Q : Option Value → nh_S → Prop} (h : nh_E kX9_oddsOf 8 [some (.ref 0), some (.int x1), some (.int x2), some (.int x3), some (.long 1000000000), none, some (.int 0), none, none] [] σ Q) : nh_E kX9_oddsOf 0 [some (.ref 0), some (.int x1), some (.int x2), some (.int x3), none, none, none, none, none] [] σ Q := by
  refine nE_ldc2 kc_X9_246 dX9_oddsOf_0 ?_
  refine nE_lstore dX9_oddsOf_3 rfl (by decide) ?_
  refine nE_iconst (v := 0) dX9_oddsOf_5 (by decide) ?_
  refine nE_istore dX9_oddsOf_6 rfl (by decide) ?_
  exact h
set_option maxRecDepth 20000 in
theorem sg_X9_oddsOf_8 (x1 : Int32) (x2 : Int32) (x3 : Int32) (x4 : Int64) (x6 : Int32) {σ : nh_S} {Q : Option Value → nh_S → Prop} (h : (σ.2.1 9 0 ≤ x6 → (Q (some (.long x4)) σ)) ∧ (¬ (σ.2.1 9 0 ≤ x6) → ((x6 = x2 → (nh_E kX9_oddsOf 8 [some (.ref 0), some (.int x1), some (.int x2), some (.int x3), some (.long x4), none, some (.int (x6 + 1)), none, none] [] σ Q)) ∧ (¬ (x6 = x2) → ((vp_in (((6 * x6) + 2) + x3) 108) ∧ nh_E kX9_oddsOf 8 [some (.ref 0), some (.int x1), some (.int x2), some (.int x3), some (.long (if nh_hs x1 x6 then (x4 * ((σ.2.1 3 ((((6 * x6) + 2) + x3).toNatClampNeg)).toInt64)) / 100 else x4 - ((x4 * ((σ.2.1 3 ((((6 * x6) + 2) + x3).toNatClampNeg)).toInt64)) / 100))), none, some (.int (x6 + 1)), none, none] [] σ Q))))) : nh_E kX9_oddsOf 8 [some (.ref 0), some (.int x1), some (.int x2), some (.int x3), some (.long x4), none, some (.int x6), none, none] [] σ Q := by
  refine nE_iload dX9_oddsOf_8 rfl ?_
  refine nE_aload_n dX9_oddsOf_10 rfl rfl ?_
  refine nE_getC fl_X9_35 sR_0 rfl dX9_oddsOf_11 ?_
  refine nE_iconst (v := 0) dX9_oddsOf_14 (by decide) ?_
  refine nG_iald (j := 0) sR_9 (by decide) dX9_oddsOf_15 ⟨(nh_vi (by decide)), ?_⟩
  refine nE_icmp_ge (tgt := 76) dX9_oddsOf_16 (by decide) ⟨fun c1 => ?_, fun c1 => ?_⟩
  · have h := h.1 c1
    refine nE_lload dX9_oddsOf_76 rfl ?_
    exact nE_lret dX9_oddsOf_78 rfl h
  · have h := h.2 c1
    refine nE_iload dX9_oddsOf_19 rfl ?_
    refine nE_iload_n dX9_oddsOf_21 rfl rfl ?_
    refine nE_icmp_eq (tgt := 70) dX9_oddsOf_22 (by decide) ⟨fun c2 => ?_, fun c2 => ?_⟩
    · have h := h.1 c2
      refine nE_iinc (v := x6 + 1) dX9_oddsOf_70 rfl rfl (by decide) rfl ?_
      refine nE_goto (tgt := 8) dX9_oddsOf_73 (by decide) ?_
      exact h
    · have h := h.2 c2
      refine nE_lload dX9_oddsOf_25 rfl ?_
      refine nE_aload_n dX9_oddsOf_27 rfl rfl ?_
      refine nE_getC fl_X9_17 sR_0 rfl dX9_oddsOf_28 ?_
      refine nE_bipush (v := 6) dX9_oddsOf_31 (by decide) ?_
      refine nE_iload dX9_oddsOf_33 rfl ?_
      refine nE_imul dX9_oddsOf_35 ?_
      refine nE_iconst (v := 2) dX9_oddsOf_36 (by decide) ?_
      refine nE_iadd dX9_oddsOf_37 ?_
      refine nE_iload_n dX9_oddsOf_38 rfl rfl ?_
      refine nE_iadd dX9_oddsOf_39 ?_
      obtain ⟨g3, h⟩ := h
      refine nG_iald (j := (((6 * x6) + 2) + x3).toNatClampNeg) sR_3 rfl dX9_oddsOf_40 ⟨g3, ?_⟩
      refine nE_i2l dX9_oddsOf_41 ?_
      refine nE_lmul dX9_oddsOf_42 ?_
      refine nE_ldc2 kc_X9_248 dX9_oddsOf_43 ?_
      refine nE_ldiv dX9_oddsOf_46 (by decide) ?_
      refine nE_lstore dX9_oddsOf_47 rfl (by decide) ?_
      refine nE_iload_n dX9_oddsOf_49 rfl rfl ?_
      refine nE_iload dX9_oddsOf_50 rfl ?_
      refine nE_callS (As := [.int x1, .int x6]) yf_X9_has ⟨by decide, by decide⟩ rfl sl_X9_146 dX9_oddsOf_52 rfl rfl (Nat.le_of_ble_eq_true rfl) (Nat.le_of_ble_eq_true rfl) (p_X9_has _ _ ?_)
      have j4 : nh_E kX9_oddsOf 68 [some (.ref 0), some (.int x1), some (.int x2), some (.int x3), some (.long x4), none, some (.int x6), some (.long ((x4 * ((σ.2.1 3 ((((6 * x6) + 2) + x3).toNatClampNeg)).toInt64)) / 100)), none] [.long (if nh_hs x1 x6 then (x4 * ((σ.2.1 3 ((((6 * x6) + 2) + x3).toNatClampNeg)).toInt64)) / 100 else x4 - ((x4 * ((σ.2.1 3 ((((6 * x6) + 2) + x3).toNatClampNeg)).toInt64)) / 100))] σ Q := by
        refine nE_lstore dX9_oddsOf_68 rfl (by decide) ?_
        refine nE_iinc (v := x6 + 1) dX9_oddsOf_70 rfl rfl (by decide) rfl ?_
        refine nE_goto (tgt := 8) dX9_oddsOf_73 (by decide) ?_
        refine nE_weak 7 ?_
        exact h
      refine nE_ifb_eq (tgt := 63) dX9_oddsOf_55 (by decide) ⟨fun c5 => ?_, fun c5 => ?_⟩
      · skip
        have f6 : (nh_hs x1 x6) = False := eq_false c5
        refine nE_lload dX9_oddsOf_63 rfl ?_
        refine nE_lload dX9_oddsOf_65 rfl ?_
        refine nE_lsub dX9_oddsOf_67 ?_
        exact nh_topl (show ((if nh_hs x1 x6 then (x4 * ((σ.2.1 3 ((((6 * x6) + 2) + x3).toNatClampNeg)).toInt64)) / 100 else x4 - ((x4 * ((σ.2.1 3 ((((6 * x6) + 2) + x3).toNatClampNeg)).toInt64)) / 100)) : Int64) = x4 - ((x4 * ((σ.2.1 3 ((((6 * x6) + 2) + x3).toNatClampNeg)).toInt64)) / 100) from by simp only [if_true, if_false, not_true_eq_false, not_false_eq_true, true_and, and_true, false_and, and_false, true_or, or_true, false_or, or_false, if_pos, if_neg, ite_true, ite_false, f6]) j4
      · skip
        have f7 : (nh_hs x1 x6) = True := eq_true c5
        refine nE_lload dX9_oddsOf_58 rfl ?_
        refine nE_goto (tgt := 68) dX9_oddsOf_60 (by decide) ?_
        exact nh_topl (show ((if nh_hs x1 x6 then (x4 * ((σ.2.1 3 ((((6 * x6) + 2) + x3).toNatClampNeg)).toInt64)) / 100 else x4 - ((x4 * ((σ.2.1 3 ((((6 * x6) + 2) + x3).toNatClampNeg)).toInt64)) / 100)) : Int64) = (x4 * ((σ.2.1 3 ((((6 * x6) + 2) + x3).toNatClampNeg)).toInt64)) / 100 from by simp only [if_true, if_false, not_true_eq_false, not_false_eq_true, true_and, and_true, false_and, and_false, true_or, or_true, false_or, or_false, if_pos, if_neg, ite_true, ite_false, f7]) j4
set_option maxRecDepth 20000 in
theorem sg_X9_odds_0 (x1 : Int32) (x2 : Int32) (x3 : Int32) (x4 : Int32) {σ : nh_S} {Q : Option Value → nh_S → Prop} (h : (¬ (¬ (x1 < 0) ∧ ¬ ((σ.2.1 9 0) - 1 < x1)) → (Q (some (.int (-1000001))) σ)) ∧ (¬ (x1 < 0) ∧ ¬ ((σ.2.1 9 0) - 1 < x1) → ((¬ (x2 < 0) ∧ ¬ ((σ.2.1 9 0) - 1 < x2) → ((¬ (¬ (x3 < 0) ∧ ¬ (3 < x3)) → (Q (some (.int (-1000002))) σ)) ∧ (¬ (x3 < 0) ∧ ¬ (3 < x3) → ((¬ (x4 < 0) ∧ ¬ (1 < x4) → (nh_E kX9_odds 54 [some (.ref 0), some (.int x1), some (.int x2), some (.int x3), some (.int x4), some (.long 0), none, some (.int 0), some (.int 0), none, none, none] [] σ Q)) ∧ (¬ (¬ (x4 < 0) ∧ ¬ (1 < x4)) → (Q (some (.int (-1000002))) σ)))))) ∧ (¬ (¬ (x2 < 0) ∧ ¬ ((σ.2.1 9 0) - 1 < x2)) → (Q (some (.int (-1000001))) σ))))) : nh_E kX9_odds 0 [some (.ref 0), some (.int x1), some (.int x2), some (.int x3), some (.int x4), none, none, none, none, none, none, none] [] σ Q := by
  refine nE_aload_n dX9_odds_0 rfl rfl ?_
  refine nE_iload_n dX9_odds_1 rfl rfl ?_
  refine nE_callV (As := [.int x1]) yf_X9_isHouse ⟨by decide, by decide⟩ rfl rfl sR_0 rfl vl_X9_193 dX9_odds_2 rfl rfl (Nat.le_of_ble_eq_true rfl) (Nat.le_of_ble_eq_true rfl) (p_X9_isHouse _ ?_)
  refine nE_ifb_eq (tgt := 16) dX9_odds_5 (by decide) ⟨fun c1 => ?_, fun c1 => ?_⟩
  · have h := h.1 c1
    refine nE_ldc kc_X9_197 dX9_odds_16 ?_
    exact nE_iret dX9_odds_18 rfl h
  · have h := h.2 c1
    refine nE_aload_n dX9_odds_8 rfl rfl ?_
    refine nE_iload_n dX9_odds_9 rfl rfl ?_
    refine nE_callV (As := [.int x2]) yf_X9_isHouse ⟨by decide, by decide⟩ rfl rfl sR_0 rfl vl_X9_193 dX9_odds_10 rfl rfl (Nat.le_of_ble_eq_true rfl) (Nat.le_of_ble_eq_true rfl) (p_X9_isHouse _ ?_)
    refine nE_ifb_ne (tgt := 19) dX9_odds_13 (by decide) ⟨fun c2 => ?_, fun c2 => ?_⟩
    · have h := h.1 c2
      refine nE_iload_n dX9_odds_19 rfl rfl ?_
      refine nE_i2l dX9_odds_20 ?_
      refine nE_lconst (v := 0) dX9_odds_21 (by decide) ?_
      refine nE_ldc2 kc_X9_250 dX9_odds_22 ?_
      refine nE_callS (As := [.long x3.toInt64, .long 0, .long 3]) yf_X9_in ⟨by decide, by decide⟩ rfl sl_X9_95 dX9_odds_25 rfl rfl (Nat.le_of_ble_eq_true rfl) (Nat.le_of_ble_eq_true rfl) (p_X9_in x3 0 3 (by decide) (by decide) ?_)
      refine nE_ifb_eq (tgt := 42) dX9_odds_28 (by decide) ⟨fun c3 => ?_, fun c3 => ?_⟩
      · have h := h.1 c3
        refine nE_ldc kc_X9_99 dX9_odds_42 ?_
        exact nE_iret dX9_odds_44 rfl h
      · have h := h.2 c3
        refine nE_iload dX9_odds_31 rfl ?_
        refine nE_i2l dX9_odds_33 ?_
        refine nE_lconst (v := 0) dX9_odds_34 (by decide) ?_
        refine nE_lconst (v := 1) dX9_odds_35 (by decide) ?_
        refine nE_callS (As := [.long x4.toInt64, .long 0, .long 1]) yf_X9_in ⟨by decide, by decide⟩ rfl sl_X9_95 dX9_odds_36 rfl rfl (Nat.le_of_ble_eq_true rfl) (Nat.le_of_ble_eq_true rfl) (p_X9_in x4 0 1 (by decide) (by decide) ?_)
        refine nE_ifb_ne (tgt := 45) dX9_odds_39 (by decide) ⟨fun c4 => ?_, fun c4 => ?_⟩
        · have h := h.1 c4
          refine nE_lconst (v := 0) dX9_odds_45 (by decide) ?_
          refine nE_lstore dX9_odds_46 rfl (by decide) ?_
          refine nE_iconst (v := 0) dX9_odds_48 (by decide) ?_
          refine nE_istore dX9_odds_49 rfl (by decide) ?_
          refine nE_iconst (v := 0) dX9_odds_51 (by decide) ?_
          refine nE_istore dX9_odds_52 rfl (by decide) ?_
          exact h
        · have h := h.2 c4
          refine nE_ldc kc_X9_99 dX9_odds_42 ?_
          exact nE_iret dX9_odds_44 rfl h
    · have h := h.2 c2
      refine nE_ldc kc_X9_197 dX9_odds_16 ?_
      exact nE_iret dX9_odds_18 rfl h
set_option maxRecDepth 20000 in
theorem sg_X9_odds_54 (x1 : Int32) (x2 : Int32) (x3 : Int32) (x4 : Int32) (x5 : Int64) (x7 : Int32) (x8 : Int32) {σ : nh_S} {Q : Option Value → nh_S → Prop} (h : (1 <<< ((σ.2.1 9 0) &&& 31) ≤ x8 → (Q (some (.int (if x4 = 0 then (x5 / 1000000).toInt32 else x7))) σ)) ∧ (¬ (1 <<< ((σ.2.1 9 0) &&& 31) ≤ x8) → ((¬ (nh_hs x8 x2) → (nh_E kX9_oddsOf 0 [some (.ref 0), some (.int x8), some (.int x2), some (.int x3), none, none, none, none, none] [] σ (nh_ql fun r8 τ7 => (¬ (0 < r8) → (nh_E kX9_odds 54 [some (.ref 0), some (.int x1), some (.int x2), some (.int x3), some (.int x4), some (.long x5), none, some (.int x7), some (.int (x8 + 1)), none, none, none] [] τ7 Q)) ∧ (0 < r8 → (nh_E kX9_standsBy 0 [some (.ref 0), some (.int x1), some (.int x2), some (.int x8)] [] τ7 (nh_qi fun r12 τ11 => nh_E kX9_odds 54 [some (.ref 0), some (.int x1), some (.int x2), some (.int x3), some (.int x4), some (.long (x5 + (r8 * ((if 0 ≤ r12 then r12 else 500).toInt64)))), none, some (.int (if (if 0 ≤ r12 then r12 else 500) ≤ x7 then x7 else (if 0 ≤ r12 then r12 else 500))), some (.int (x8 + 1)), none, none, none] [] τ11 Q)))))) ∧ (nh_hs x8 x2 → (nh_E kX9_odds 54 [some (.ref 0), some (.int x1), some (.int x2), some (.int x3), some (.int x4), some (.long x5), none, some (.int x7), some (.int (x8 + 1)), none, none, none] [] σ Q))))) : nh_E kX9_odds 54 [some (.ref 0), some (.int x1), some (.int x2), some (.int x3), some (.int x4), some (.long x5), none, some (.int x7), some (.int x8), none, none, none] [] σ Q := by
  refine nE_iload dX9_odds_54 rfl ?_
  refine nE_iconst (v := 1) dX9_odds_56 (by decide) ?_
  refine nE_aload_n dX9_odds_57 rfl rfl ?_
  refine nE_getC fl_X9_35 sR_0 rfl dX9_odds_58 ?_
  refine nE_iconst (v := 0) dX9_odds_61 (by decide) ?_
  refine nG_iald (j := 0) sR_9 (by decide) dX9_odds_62 ⟨(nh_vi (by decide)), ?_⟩
  refine nE_ishl dX9_odds_63 ?_
  refine nE_icmp_ge (tgt := 143) dX9_odds_64 (by decide) ⟨fun c1 => ?_, fun c1 => ?_⟩
  · have h := h.1 c1
    refine nE_iload dX9_odds_143 rfl ?_
    have j2 : nh_E kX9_odds 160 [some (.ref 0), some (.int x1), some (.int x2), some (.int x3), some (.int x4), some (.long x5), none, some (.int x7), some (.int x8), none, none, none] [.int (if x4 = 0 then (x5 / 1000000).toInt32 else x7)] σ Q := by
      exact nE_iret dX9_odds_160 rfl h
    refine nE_if_ne (tgt := 158) dX9_odds_145 (by decide) ⟨fun c3 => ?_, fun c3 => ?_⟩
    · skip
      have f4 : (x4 = 0) = False := eq_false c3
      refine nE_iload dX9_odds_158 rfl ?_
      exact nh_topi (show ((if x4 = 0 then (x5 / 1000000).toInt32 else x7) : Int32) = x7 from by simp only [if_true, if_false, not_true_eq_false, not_false_eq_true, true_and, and_true, false_and, and_false, true_or, or_true, false_or, or_false, if_pos, if_neg, ite_true, ite_false, f4]) j2
    · skip
      have f5 : (x4 = 0) = True := eq_true c3
      refine nE_lload dX9_odds_148 rfl ?_
      refine nE_ldc2 kc_X9_259 dX9_odds_150 ?_
      refine nE_ldiv dX9_odds_153 (by decide) ?_
      refine nE_l2i dX9_odds_154 ?_
      refine nE_goto (tgt := 160) dX9_odds_155 (by decide) ?_
      exact nh_topi (show ((if x4 = 0 then (x5 / 1000000).toInt32 else x7) : Int32) = (x5 / 1000000).toInt32 from by simp only [if_true, if_false, not_true_eq_false, not_false_eq_true, true_and, and_true, false_and, and_false, true_or, or_true, false_or, or_false, if_pos, if_neg, ite_true, ite_false, f5]) j2
  · have h := h.2 c1
    refine nE_iload dX9_odds_67 rfl ?_
    refine nE_iload_n dX9_odds_69 rfl rfl ?_
    refine nE_callS (As := [.int x8, .int x2]) yf_X9_has ⟨by decide, by decide⟩ rfl sl_X9_146 dX9_odds_70 rfl rfl (Nat.le_of_ble_eq_true rfl) (Nat.le_of_ble_eq_true rfl) (p_X9_has _ _ ?_)
    refine nE_ifb_eq (tgt := 80) dX9_odds_73 (by decide) ⟨fun c6 => ?_, fun c6 => ?_⟩
    · have h := h.1 c6
      refine nE_aload_n dX9_odds_80 rfl rfl ?_
      refine nE_iload dX9_odds_81 rfl ?_
      refine nE_iload_n dX9_odds_83 rfl rfl ?_
      refine nE_iload_n dX9_odds_84 rfl rfl ?_
      refine nE_callV (As := [.int x8, .int x2, .int x3]) yf_X9_oddsOf ⟨by decide, by decide⟩ rfl rfl sR_0 rfl vl_X9_252 dX9_odds_85 rfl rfl (Nat.le_of_ble_eq_true rfl) (Nat.le_of_ble_eq_true rfl) (nE_mono (fun z9 τ7 h => ?_) h)
      obtain ⟨r8, rfl, h⟩ := h
      refine nE_lstore dX9_odds_88 rfl (by decide) ?_
      refine nE_lload dX9_odds_90 rfl ?_
      refine nE_lconst (v := 0) dX9_odds_92 (by decide) ?_
      refine nE_lcmp dX9_odds_93 ?_
      refine nE_ifl_le (tgt := 137) dX9_odds_94 (by decide) ⟨fun c10 => ?_, fun c10 => ?_⟩
      · have h := h.1 c10
        refine nE_iinc (v := x8 + 1) dX9_odds_137 rfl rfl (by decide) rfl ?_
        refine nE_goto (tgt := 54) dX9_odds_140 (by decide) ?_
        refine nE_weak 9 ?_
        exact h
      · have h := h.2 c10
        refine nE_aload_n dX9_odds_97 rfl rfl ?_
        refine nE_iload_n dX9_odds_98 rfl rfl ?_
        refine nE_iload_n dX9_odds_99 rfl rfl ?_
        refine nE_iload dX9_odds_100 rfl ?_
        refine nE_callV (As := [.int x1, .int x2, .int x8]) yf_X9_standsBy ⟨by decide, by decide⟩ rfl rfl sR_0 rfl vl_X9_242 dX9_odds_102 rfl rfl (Nat.le_of_ble_eq_true rfl) (Nat.le_of_ble_eq_true rfl) (nE_mono (fun z13 τ11 h => ?_) h)
        obtain ⟨r12, rfl, h⟩ := h
        refine nE_callS (As := [.int r12]) yf_X9_held ⟨by decide, by decide⟩ rfl sl_X9_256 dX9_odds_105 rfl rfl (Nat.le_of_ble_eq_true rfl) (Nat.le_of_ble_eq_true rfl) (p_X9_held _ ?_)
        refine nE_istore dX9_odds_108 rfl (by decide) ?_
        refine nE_lload dX9_odds_110 rfl ?_
        refine nE_lload dX9_odds_112 rfl ?_
        refine nE_iload dX9_odds_114 rfl ?_
        refine nE_i2l dX9_odds_116 ?_
        refine nE_lmul dX9_odds_117 ?_
        refine nE_ladd dX9_odds_118 ?_
        refine nE_lstore dX9_odds_119 rfl (by decide) ?_
        refine nE_iload dX9_odds_121 rfl ?_
        refine nE_iload dX9_odds_123 rfl ?_
        have j14 : nh_E kX9_odds 135 [some (.ref 0), some (.int x1), some (.int x2), some (.int x3), some (.int x4), some (.long (x5 + (r8 * ((if 0 ≤ r12 then r12 else 500).toInt64)))), none, some (.int x7), some (.int x8), some (.long r8), none, some (.int (if 0 ≤ r12 then r12 else 500))] [.int (if (if 0 ≤ r12 then r12 else 500) ≤ x7 then x7 else (if 0 ≤ r12 then r12 else 500))] τ11 Q := by
          refine nE_istore dX9_odds_135 rfl (by decide) ?_
          refine nE_iinc (v := x8 + 1) dX9_odds_137 rfl rfl (by decide) rfl ?_
          refine nE_goto (tgt := 54) dX9_odds_140 (by decide) ?_
          refine nE_weak 9 ?_
          refine nE_weak 11 ?_
          exact h
        refine nE_icmp_le (tgt := 133) dX9_odds_125 (by decide) ⟨fun c15 => ?_, fun c15 => ?_⟩
        · skip
          have f16 : ((if 0 ≤ r12 then r12 else 500) ≤ x7) = True := eq_true c15
          refine nE_iload dX9_odds_133 rfl ?_
          exact nh_topi (show ((if (if 0 ≤ r12 then r12 else 500) ≤ x7 then x7 else (if 0 ≤ r12 then r12 else 500)) : Int32) = x7 from by simp only [if_true, if_false, not_true_eq_false, not_false_eq_true, true_and, and_true, false_and, and_false, true_or, or_true, false_or, or_false, if_pos, if_neg, ite_true, ite_false, f16]) j14
        · skip
          have f17 : ((if 0 ≤ r12 then r12 else 500) ≤ x7) = False := eq_false c15
          refine nE_iload dX9_odds_128 rfl ?_
          refine nE_goto (tgt := 135) dX9_odds_130 (by decide) ?_
          exact nh_topi (show ((if (if 0 ≤ r12 then r12 else 500) ≤ x7 then x7 else (if 0 ≤ r12 then r12 else 500)) : Int32) = (if 0 ≤ r12 then r12 else 500) from by simp only [if_true, if_false, not_true_eq_false, not_false_eq_true, true_and, and_true, false_and, and_false, true_or, or_true, false_or, or_false, if_pos, if_neg, ite_true, ite_false, f17]) j14
    · have h := h.2 c6
      refine nE_lconst (v := 0) dX9_odds_76 (by decide) ?_
      refine nE_goto (tgt := 88) dX9_odds_77 (by decide) ?_
      refine nE_lstore dX9_odds_88 rfl (by decide) ?_
      refine nE_lload dX9_odds_90 rfl ?_
      refine nE_lconst (v := 0) dX9_odds_92 (by decide) ?_
      refine nE_lcmp dX9_odds_93 ?_
      refine nE_ifl_le (tgt := 137) dX9_odds_94 (by decide) ⟨fun c18 => ?_, fun c18 => absurd c18 (by decide)⟩
      refine nE_iinc (v := x8 + 1) dX9_odds_137 rfl rfl (by decide) rfl ?_
      refine nE_goto (tgt := 54) dX9_odds_140 (by decide) ?_
      refine nE_weak 9 ?_
      exact h
set_option maxRecDepth 20000 in
theorem sg_X9_draw_0 (x1 : Int32) {σ : nh_S} {Q : Option Value → nh_S → Prop} (h : (¬ x1 = 0) ∧ Q (some (.int (((((nh_wa σ 1 25 ((((((σ.2.1 1 25).toInt64) * 1103515245) + 12345) - ((((σ.2.1 1 25).toInt64) * 1103515245) + 12345) / 2147483648 * 2147483648).toInt32))).2.1 1 25) / 65536) - ((((nh_wa σ 1 25 ((((((σ.2.1 1 25).toInt64) * 1103515245) + 12345) - ((((σ.2.1 1 25).toInt64) * 1103515245) + 12345) / 2147483648 * 2147483648).toInt32))).2.1 1 25) / 65536) / x1 * x1))) (nh_wa σ 1 25 ((((((σ.2.1 1 25).toInt64) * 1103515245) + 12345) - ((((σ.2.1 1 25).toInt64) * 1103515245) + 12345) / 2147483648 * 2147483648).toInt32))) : nh_E kX9_draw 0 [some (.ref 0), some (.int x1)] [] σ Q := by
  refine nE_aload_n dX9_draw_0 rfl rfl ?_
  refine nE_getC fl_X9_7 sR_0 rfl dX9_draw_1 ?_
  refine nE_bipush (v := 25) dX9_draw_4 (by decide) ?_
  refine nE_aload_n dX9_draw_6 rfl rfl ?_
  refine nE_getC fl_X9_7 sR_0 rfl dX9_draw_7 ?_
  refine nE_bipush (v := 25) dX9_draw_10 (by decide) ?_
  refine nG_iald (j := 25) sR_1 (by decide) dX9_draw_12 ⟨(nh_vi (by decide)), ?_⟩
  refine nE_i2l dX9_draw_13 ?_
  refine nE_ldc2 kc_X9_261 dX9_draw_14 ?_
  refine nE_lmul dX9_draw_17 ?_
  refine nE_ldc2 kc_X9_263 dX9_draw_18 ?_
  refine nE_ladd dX9_draw_21 ?_
  refine nE_ldc2 kc_X9_265 dX9_draw_22 ?_
  refine nE_lrem dX9_draw_25 (by decide) ?_
  refine nE_l2i dX9_draw_26 ?_
  refine nG_iast (j := 25) sR_1 (by decide) dX9_draw_27 ⟨(nh_vi (by decide)), ?_⟩
  refine nE_aload_n dX9_draw_28 rfl rfl ?_
  refine nE_getC fl_X9_7 sR_0 rfl dX9_draw_29 ?_
  refine nE_bipush (v := 25) dX9_draw_32 (by decide) ?_
  refine nG_iald (j := 25) sR_1 (by decide) dX9_draw_34 ⟨(nh_vi (by decide)), ?_⟩
  refine nE_ldcw kc_X9_267 dX9_draw_35 ?_
  refine nE_idiv dX9_draw_38 (by decide) ?_
  refine nE_iload_n dX9_draw_39 rfl rfl ?_
  obtain ⟨g1, h⟩ := h
  refine nE_irem dX9_draw_40 g1 ?_
  exact nE_iret dX9_draw_41 rfl h
set_option maxRecDepth 20000 in
theorem sg_X9_night_0 (x1 : Int32) {σ : nh_S} {Q : Option Value → nh_S → Prop} (h : (¬ (x1 < 0) ∧ ¬ (3 < x1) → (nh_E kX9_night 19 [some (.ref 0), some (.int x1), some (.int 0), some (.int 0)] [] σ Q)) ∧ (¬ (¬ (x1 < 0) ∧ ¬ (3 < x1)) → (Q (some (.int (-1000002))) σ))) : nh_E kX9_night 0 [some (.ref 0), some (.int x1), none, none] [] σ Q := by
  refine nE_iload_n dX9_night_0 rfl rfl ?_
  refine nE_i2l dX9_night_1 ?_
  refine nE_lconst (v := 0) dX9_night_2 (by decide) ?_
  refine nE_ldc2 kc_X9_250 dX9_night_3 ?_
  refine nE_callS (As := [.long x1.toInt64, .long 0, .long 3]) yf_X9_in ⟨by decide, by decide⟩ rfl sl_X9_95 dX9_night_6 rfl rfl (Nat.le_of_ble_eq_true rfl) (Nat.le_of_ble_eq_true rfl) (p_X9_in x1 0 3 (by decide) (by decide) ?_)
  refine nE_ifb_ne (tgt := 15) dX9_night_9 (by decide) ⟨fun c1 => ?_, fun c1 => ?_⟩
  · have h := h.1 c1
    refine nE_iconst (v := 0) dX9_night_15 (by decide) ?_
    refine nE_istore_n dX9_night_16 rfl rfl (by decide) ?_
    refine nE_iconst (v := 0) dX9_night_17 (by decide) ?_
    refine nE_istore_n dX9_night_18 rfl rfl (by decide) ?_
    exact h
  · have h := h.2 c1
    refine nE_ldc kc_X9_99 dX9_night_12 ?_
    exact nE_iret dX9_night_14 rfl h
set_option maxRecDepth 20000 in
theorem sg_X9_night_19 (x1 : Int32) (x2 : Int32) (x3 : Int32) {σ : nh_S} {Q : Option Value → nh_S → Prop} (h : (σ.2.1 9 0 ≤ x3 → (Q (some (.int x2)) (nh_wa σ 1 24 x2))) ∧ (¬ (σ.2.1 9 0 ≤ x3) → (nh_E kX9_draw 0 [some (.ref 0), some (.int 100)] [] σ (nh_qi fun r3 τ2 => (vp_in (((6 * x3) + 2) + x1) 108) ∧ nh_E kX9_night 19 [some (.ref 0), some (.int x1), some (.int (x2 ||| ((if ¬ (τ2.2.1 3 ((((6 * x3) + 2) + x1).toNatClampNeg) ≤ r3) then 1 else 0) <<< (x3 &&& 31)))), some (.int (x3 + 1))] [] τ2 Q)))) : nh_E kX9_night 19 [some (.ref 0), some (.int x1), some (.int x2), some (.int x3)] [] σ Q := by
  refine nE_iload_n dX9_night_19 rfl rfl ?_
  refine nE_aload_n dX9_night_20 rfl rfl ?_
  refine nE_getC fl_X9_35 sR_0 rfl dX9_night_21 ?_
  refine nE_iconst (v := 0) dX9_night_24 (by decide) ?_
  refine nG_iald (j := 0) sR_9 (by decide) dX9_night_25 ⟨(nh_vi (by decide)), ?_⟩
  refine nE_icmp_ge (tgt := 70) dX9_night_26 (by decide) ⟨fun c1 => ?_, fun c1 => ?_⟩
  · have h := h.1 c1
    refine nE_aload_n dX9_night_70 rfl rfl ?_
    refine nE_getC fl_X9_7 sR_0 rfl dX9_night_71 ?_
    refine nE_bipush (v := 24) dX9_night_74 (by decide) ?_
    refine nE_iload_n dX9_night_76 rfl rfl ?_
    refine nG_iast (j := 24) sR_1 (by decide) dX9_night_77 ⟨(nh_vi (by decide)), ?_⟩
    refine nE_iload_n dX9_night_78 rfl rfl ?_
    exact nE_iret dX9_night_79 rfl h
  · have h := h.2 c1
    refine nE_iload_n dX9_night_29 rfl rfl ?_
    refine nE_aload_n dX9_night_30 rfl rfl ?_
    refine nE_bipush (v := 100) dX9_night_31 (by decide) ?_
    refine nE_callV (As := [.int 100]) yf_X9_draw ⟨by decide, by decide⟩ rfl rfl sR_0 rfl vl_X9_268 dX9_night_33 rfl rfl (Nat.le_of_ble_eq_true rfl) (Nat.le_of_ble_eq_true rfl) (nE_mono (fun z4 τ2 h => ?_) h)
    obtain ⟨r3, rfl, h⟩ := h
    refine nE_aload_n dX9_night_36 rfl rfl ?_
    refine nE_getC fl_X9_17 sR_0 rfl dX9_night_37 ?_
    refine nE_bipush (v := 6) dX9_night_40 (by decide) ?_
    refine nE_iload_n dX9_night_42 rfl rfl ?_
    refine nE_imul dX9_night_43 ?_
    refine nE_iconst (v := 2) dX9_night_44 (by decide) ?_
    refine nE_iadd dX9_night_45 ?_
    refine nE_iload_n dX9_night_46 rfl rfl ?_
    refine nE_iadd dX9_night_47 ?_
    obtain ⟨g5, h⟩ := h
    refine nG_iald (j := (((6 * x3) + 2) + x1).toNatClampNeg) sR_3 rfl dX9_night_48 ⟨g5, ?_⟩
    have j6 : nh_E kX9_night 57 [some (.ref 0), some (.int x1), some (.int x2), some (.int x3)] [.int (if ¬ (τ2.2.1 3 ((((6 * x3) + 2) + x1).toNatClampNeg) ≤ r3) then 1 else 0), .int x2] τ2 Q := by
      refine nE_callS (As := [.int (if ¬ (τ2.2.1 3 ((((6 * x3) + 2) + x1).toNatClampNeg) ≤ r3) then 1 else 0)]) yf_X9_one ⟨by decide, by decide⟩ rfl sl_X9_150 dX9_night_57 rfl rfl (Nat.le_of_ble_eq_true rfl) (Nat.le_of_ble_eq_true rfl) (p_X9_one _ ?_)
      refine nE_iload_n dX9_night_60 rfl rfl ?_
      refine nE_ishl dX9_night_61 ?_
      refine nE_ior dX9_night_62 ?_
      refine nE_istore_n dX9_night_63 rfl rfl (by decide) ?_
      refine nE_iinc (v := x3 + 1) dX9_night_64 rfl rfl (by decide) rfl ?_
      refine nE_goto (tgt := 19) dX9_night_67 (by decide) ?_
      exact h
    refine nE_icmp_ge (tgt := 56) dX9_night_49 (by decide) ⟨fun c7 => ?_, fun c7 => ?_⟩
    · skip
      have f8 : (τ2.2.1 3 ((((6 * x3) + 2) + x1).toNatClampNeg) ≤ r3) = True := eq_true c7
      refine nE_iconst (v := 0) dX9_night_56 (by decide) ?_
      exact nh_topi (show ((if ¬ (τ2.2.1 3 ((((6 * x3) + 2) + x1).toNatClampNeg) ≤ r3) then 1 else 0) : Int32) = 0 from by simp only [if_true, if_false, not_true_eq_false, not_false_eq_true, true_and, and_true, false_and, and_false, true_or, or_true, false_or, or_false, if_pos, if_neg, ite_true, ite_false, f8]) j6
    · skip
      have f9 : (τ2.2.1 3 ((((6 * x3) + 2) + x1).toNatClampNeg) ≤ r3) = False := eq_false c7
      refine nE_iconst (v := 1) dX9_night_52 (by decide) ?_
      refine nE_goto (tgt := 57) dX9_night_53 (by decide) ?_
      exact nh_topi (show ((if ¬ (τ2.2.1 3 ((((6 * x3) + 2) + x1).toNatClampNeg) ≤ r3) then 1 else 0) : Int32) = 1 from by simp only [if_true, if_false, not_true_eq_false, not_false_eq_true, true_and, and_true, false_and, and_false, true_or, or_true, false_or, or_false, if_pos, if_neg, ite_true, ite_false, f9]) j6
set_option maxRecDepth 20000 in
theorem sg_X9_nextRound_0  {σ : nh_S} {Q : Option Value → nh_S → Prop} (h : nh_E kX9_nextRound 7 [some (.ref 0), some (.int ((σ.1 0 34) - 2)), none, none, none, none] [] σ Q) : nh_E kX9_nextRound 0 [some (.ref 0), none, none, none, none, none] [] σ Q := by
  refine nE_aload_n dX9_nextRound_0 rfl rfl ?_
  refine nE_getI fl_X9_271 sR_0 rfl dX9_nextRound_1 ?_
  refine nE_iconst (v := 2) dX9_nextRound_4 (by decide) ?_
  refine nE_isub dX9_nextRound_5 ?_
  refine nE_istore_n dX9_nextRound_6 rfl rfl (by decide) ?_
  exact h
set_option maxRecDepth 20000 in
theorem sg_X9_nextRound_7 (x1 : Int32) {σ : nh_S} {Q : Option Value → nh_S → Prop} (h : (x1 < 0 → ((0 ≤ x1 → (nh_E kX9_nextRound 47 [some (.ref 0), some (.int x1), some (.int ((σ.1 0 34) - 1)), none, none, none] [] σ Q)) ∧ (¬ (0 ≤ x1) → (Q (some (.int 0)) σ)))) ∧ (¬ (x1 < 0) → ((vp_in x1 9) ∧ (vp_in (x1 + 1) 9) ∧ (σ.2.1 22 x1.toNatClampNeg ≤ σ.2.1 22 ((x1 + 1).toNatClampNeg) → ((0 ≤ x1 → (nh_E kX9_nextRound 47 [some (.ref 0), some (.int x1), some (.int ((σ.1 0 34) - 1)), none, none, none] [] σ Q)) ∧ (¬ (0 ≤ x1) → (Q (some (.int 0)) σ)))) ∧ (¬ (σ.2.1 22 x1.toNatClampNeg ≤ σ.2.1 22 ((x1 + 1).toNatClampNeg)) → (nh_E kX9_nextRound 7 [some (.ref 0), some (.int (x1 + (-1))), none, none, none, none] [] σ Q))))) : nh_E kX9_nextRound 7 [some (.ref 0), some (.int x1), none, none, none, none] [] σ Q := by
  refine nE_iload_n dX9_nextRound_7 rfl rfl ?_
  refine nE_if_lt (tgt := 34) dX9_nextRound_8 (by decide) ⟨fun c1 => ?_, fun c1 => ?_⟩
  · have h := h.1 c1
    refine nE_iload_n dX9_nextRound_34 rfl rfl ?_
    refine nE_if_ge (tgt := 40) dX9_nextRound_35 (by decide) ⟨fun c2 => ?_, fun c2 => ?_⟩
    · have h := h.1 c2
      refine nE_aload_n dX9_nextRound_40 rfl rfl ?_
      refine nE_getI fl_X9_271 sR_0 rfl dX9_nextRound_41 ?_
      refine nE_iconst (v := 1) dX9_nextRound_44 (by decide) ?_
      refine nE_isub dX9_nextRound_45 ?_
      refine nE_istore_n dX9_nextRound_46 rfl rfl (by decide) ?_
      exact h
    · have h := h.2 c2
      refine nE_iconst (v := 0) dX9_nextRound_38 (by decide) ?_
      exact nE_zret (ty := .boolean) dX9_nextRound_39 rfl (by decide) h
  · have h := h.2 c1
    refine nE_aload_n dX9_nextRound_11 rfl rfl ?_
    refine nE_getC fl_X9_78 sR_0 rfl dX9_nextRound_12 ?_
    refine nE_iload_n dX9_nextRound_15 rfl rfl ?_
    obtain ⟨g3, h⟩ := h
    refine nG_iald (j := x1.toNatClampNeg) sR_22 rfl dX9_nextRound_16 ⟨g3, ?_⟩
    refine nE_aload_n dX9_nextRound_17 rfl rfl ?_
    refine nE_getC fl_X9_78 sR_0 rfl dX9_nextRound_18 ?_
    refine nE_iload_n dX9_nextRound_21 rfl rfl ?_
    refine nE_iconst (v := 1) dX9_nextRound_22 (by decide) ?_
    refine nE_iadd dX9_nextRound_23 ?_
    obtain ⟨g4, h⟩ := h
    refine nG_iald (j := (x1 + 1).toNatClampNeg) sR_22 rfl dX9_nextRound_24 ⟨g4, ?_⟩
    refine nE_icmp_le (tgt := 34) dX9_nextRound_25 (by decide) ⟨fun c5 => ?_, fun c5 => ?_⟩
    · have h := h.1 c5
      refine nE_iload_n dX9_nextRound_34 rfl rfl ?_
      refine nE_if_ge (tgt := 40) dX9_nextRound_35 (by decide) ⟨fun c6 => ?_, fun c6 => ?_⟩
      · have h := h.1 c6
        refine nE_aload_n dX9_nextRound_40 rfl rfl ?_
        refine nE_getI fl_X9_271 sR_0 rfl dX9_nextRound_41 ?_
        refine nE_iconst (v := 1) dX9_nextRound_44 (by decide) ?_
        refine nE_isub dX9_nextRound_45 ?_
        refine nE_istore_n dX9_nextRound_46 rfl rfl (by decide) ?_
        exact h
      · have h := h.2 c6
        refine nE_iconst (v := 0) dX9_nextRound_38 (by decide) ?_
        exact nE_zret (ty := .boolean) dX9_nextRound_39 rfl (by decide) h
    · have h := h.2 c5
      refine nE_iinc (v := x1 + (-1)) dX9_nextRound_28 rfl rfl (by decide) rfl ?_
      refine nE_goto (tgt := 7) dX9_nextRound_31 (by decide) ?_
      exact h
set_option maxRecDepth 20000 in
theorem sg_X9_nextRound_47 (x1 : Int32) (x2 : Int32) {σ : nh_S} {Q : Option Value → nh_S → Prop} (h : (vp_in x2 9) ∧ (vp_in x1 9) ∧ (σ.2.1 22 x1.toNatClampNeg ≤ σ.2.1 22 x2.toNatClampNeg → (nh_E kX9_nextRound 107 [some (.ref 0), none, none, none, some (.int (x1 + 1)), some (.int ((σ.1 0 34) - 1))] [] (nh_wa (nh_wa σ 22 x1.toNatClampNeg (σ.2.1 22 x2.toNatClampNeg)) 22 x2.toNatClampNeg (σ.2.1 22 x1.toNatClampNeg)) Q)) ∧ (¬ (σ.2.1 22 x1.toNatClampNeg ≤ σ.2.1 22 x2.toNatClampNeg) → (nh_E kX9_nextRound 47 [some (.ref 0), some (.int x1), some (.int (x2 + (-1))), none, none, none] [] σ Q))) : nh_E kX9_nextRound 47 [some (.ref 0), some (.int x1), some (.int x2), none, none, none] [] σ Q := by
  refine nE_aload_n dX9_nextRound_47 rfl rfl ?_
  refine nE_getC fl_X9_78 sR_0 rfl dX9_nextRound_48 ?_
  refine nE_iload_n dX9_nextRound_51 rfl rfl ?_
  obtain ⟨g1, h⟩ := h
  refine nG_iald (j := x2.toNatClampNeg) sR_22 rfl dX9_nextRound_52 ⟨g1, ?_⟩
  refine nE_aload_n dX9_nextRound_53 rfl rfl ?_
  refine nE_getC fl_X9_78 sR_0 rfl dX9_nextRound_54 ?_
  refine nE_iload_n dX9_nextRound_57 rfl rfl ?_
  obtain ⟨g2, h⟩ := h
  refine nG_iald (j := x1.toNatClampNeg) sR_22 rfl dX9_nextRound_58 ⟨g2, ?_⟩
  refine nE_icmp_ge (tgt := 68) dX9_nextRound_59 (by decide) ⟨fun c3 => ?_, fun c3 => ?_⟩
  · have h := h.1 c3
    refine nE_aload_n dX9_nextRound_68 rfl rfl ?_
    refine nE_getC fl_X9_78 sR_0 rfl dX9_nextRound_69 ?_
    refine nE_iload_n dX9_nextRound_72 rfl rfl ?_
    refine nG_iald (j := x1.toNatClampNeg) sR_22 rfl dX9_nextRound_73 ⟨g2, ?_⟩
    refine nE_istore_n dX9_nextRound_74 rfl rfl (by decide) ?_
    refine nE_aload_n dX9_nextRound_75 rfl rfl ?_
    refine nE_getC fl_X9_78 sR_0 rfl dX9_nextRound_76 ?_
    refine nE_iload_n dX9_nextRound_79 rfl rfl ?_
    refine nE_aload_n dX9_nextRound_80 rfl rfl ?_
    refine nE_getC fl_X9_78 sR_0 rfl dX9_nextRound_81 ?_
    refine nE_iload_n dX9_nextRound_84 rfl rfl ?_
    refine nG_iald (j := x2.toNatClampNeg) sR_22 rfl dX9_nextRound_85 ⟨g1, ?_⟩
    refine nG_iast (j := x1.toNatClampNeg) sR_22 rfl dX9_nextRound_86 ⟨g2, ?_⟩
    refine nE_aload_n dX9_nextRound_87 rfl rfl ?_
    refine nE_getC fl_X9_78 sR_0 rfl dX9_nextRound_88 ?_
    refine nE_iload_n dX9_nextRound_91 rfl rfl ?_
    refine nE_iload_n dX9_nextRound_92 rfl rfl ?_
    refine nG_iast (j := x2.toNatClampNeg) sR_22 rfl dX9_nextRound_93 ⟨g1, ?_⟩
    refine nE_iload_n dX9_nextRound_94 rfl rfl ?_
    refine nE_iconst (v := 1) dX9_nextRound_95 (by decide) ?_
    refine nE_iadd dX9_nextRound_96 ?_
    refine nE_istore dX9_nextRound_97 rfl (by decide) ?_
    refine nE_aload_n dX9_nextRound_99 rfl rfl ?_
    refine nE_getI fl_X9_271 sR_0 rfl dX9_nextRound_100 ?_
    refine nE_iconst (v := 1) dX9_nextRound_103 (by decide) ?_
    refine nE_isub dX9_nextRound_104 ?_
    refine nE_istore dX9_nextRound_105 rfl (by decide) ?_
    refine nE_weak 1 ?_
    refine nE_weak 2 ?_
    refine nE_weak 3 ?_
    exact h
  · have h := h.2 c3
    refine nE_iinc (v := x2 + (-1)) dX9_nextRound_62 rfl rfl (by decide) rfl ?_
    refine nE_goto (tgt := 47) dX9_nextRound_65 (by decide) ?_
    exact h
set_option maxRecDepth 20000 in
theorem sg_X9_nextRound_107 (x4 : Int32) (x5 : Int32) {σ : nh_S} {Q : Option Value → nh_S → Prop} (h : (x5 ≤ x4 → (Q (some (.int 1)) σ)) ∧ (¬ (x5 ≤ x4) → ((vp_in x4 9) ∧ (vp_in x5 9) ∧ nh_E kX9_nextRound 107 [some (.ref 0), none, none, none, some (.int (x4 + 1)), some (.int (x5 + (-1)))] [] (nh_wa (nh_wa σ 22 x4.toNatClampNeg (σ.2.1 22 x5.toNatClampNeg)) 22 x5.toNatClampNeg (σ.2.1 22 x4.toNatClampNeg)) Q))) : nh_E kX9_nextRound 107 [some (.ref 0), none, none, none, some (.int x4), some (.int x5)] [] σ Q := by
  refine nE_iload dX9_nextRound_107 rfl ?_
  refine nE_iload dX9_nextRound_109 rfl ?_
  refine nE_icmp_ge (tgt := 153) dX9_nextRound_111 (by decide) ⟨fun c1 => ?_, fun c1 => ?_⟩
  · have h := h.1 c1
    refine nE_iconst (v := 1) dX9_nextRound_153 (by decide) ?_
    exact nE_zret (ty := .boolean) dX9_nextRound_154 rfl (by decide) h
  · have h := h.2 c1
    refine nE_aload_n dX9_nextRound_114 rfl rfl ?_
    refine nE_getC fl_X9_78 sR_0 rfl dX9_nextRound_115 ?_
    refine nE_iload dX9_nextRound_118 rfl ?_
    obtain ⟨g2, h⟩ := h
    refine nG_iald (j := x4.toNatClampNeg) sR_22 rfl dX9_nextRound_120 ⟨g2, ?_⟩
    refine nE_istore_n dX9_nextRound_121 rfl rfl (by decide) ?_
    refine nE_aload_n dX9_nextRound_122 rfl rfl ?_
    refine nE_getC fl_X9_78 sR_0 rfl dX9_nextRound_123 ?_
    refine nE_iload dX9_nextRound_126 rfl ?_
    refine nE_aload_n dX9_nextRound_128 rfl rfl ?_
    refine nE_getC fl_X9_78 sR_0 rfl dX9_nextRound_129 ?_
    refine nE_iload dX9_nextRound_132 rfl ?_
    obtain ⟨g3, h⟩ := h
    refine nG_iald (j := x5.toNatClampNeg) sR_22 rfl dX9_nextRound_134 ⟨g3, ?_⟩
    refine nG_iast (j := x4.toNatClampNeg) sR_22 rfl dX9_nextRound_135 ⟨g2, ?_⟩
    refine nE_aload_n dX9_nextRound_136 rfl rfl ?_
    refine nE_getC fl_X9_78 sR_0 rfl dX9_nextRound_137 ?_
    refine nE_iload dX9_nextRound_140 rfl ?_
    refine nE_iload_n dX9_nextRound_142 rfl rfl ?_
    refine nG_iast (j := x5.toNatClampNeg) sR_22 rfl dX9_nextRound_143 ⟨g3, ?_⟩
    refine nE_iinc (v := x4 + 1) dX9_nextRound_144 rfl rfl (by decide) rfl ?_
    refine nE_iinc (v := x5 + (-1)) dX9_nextRound_147 rfl rfl (by decide) rfl ?_
    refine nE_goto (tgt := 107) dX9_nextRound_150 (by decide) ?_
    refine nE_weak 3 ?_
    exact h
set_option maxRecDepth 20000 in
theorem sg_X9_cried_0 (x1 : Int32) (x2 : Int32) {σ : nh_S} {Q : Option Value → nh_S → Prop} (h : nh_E kX9_begin 0 [some (.ref 0), some (.int x2), none] [] σ (nh_qv fun τ1 => nh_E kX9_cried 15 [some (.ref 0), some (.int x1), some (.int x2), some (.int 0)] [] (nh_si τ1 0 26 (τ1.1 0 34)) Q)) : nh_E kX9_cried 0 [some (.ref 0), some (.int x1), some (.int x2), none] [] σ Q := by
  refine nE_aload_n dX9_cried_0 rfl rfl ?_
  refine nE_iload_n dX9_cried_1 rfl rfl ?_
  refine nE_callV (As := [.int x2]) yf_X9_begin ⟨by decide, by decide⟩ rfl rfl sR_0 rfl vl_X9_216 dX9_cried_2 rfl rfl (Nat.le_of_ble_eq_true rfl) (Nat.le_of_ble_eq_true rfl) (nE_mono (fun z3 τ1 h => ?_) h)
  obtain ⟨rfl, h⟩ := h
  refine nE_aload_n dX9_cried_5 rfl rfl ?_
  refine nE_aload_n dX9_cried_6 rfl rfl ?_
  refine nE_getI fl_X9_271 sR_0 rfl dX9_cried_7 ?_
  refine nE_putI fl_X9_209 sR_0 rfl ⟨rfl, rfl⟩ dX9_cried_10 ?_
  refine nE_iconst (v := 0) dX9_cried_13 (by decide) ?_
  refine nE_istore_n dX9_cried_14 rfl rfl (by decide) ?_
  exact h
set_option maxRecDepth 20000 in
theorem sg_X9_cried_15 (x1 : Int32) (x2 : Int32) (x3 : Int32) {σ : nh_S} {Q : Option Value → nh_S → Prop} (h : (σ.1 0 34 ≤ x3 → (nh_E kX9_goRound 0 [some (.ref 0), some (.int x2), some (.int 0), some (.int x1), some (.int x2), some (.int (σ.2.1 1 24)), none, none, none, none] [] σ (nh_qv fun τ2 => nh_E kX9_arriveAwake 0 [some (.ref 0), some (.int x1), none] [] τ2 (nh_qv fun τ5 => nh_E kX9_comeAll 0 [some (.ref 0), none] [] τ5 (nh_qv fun τ8 => nh_E kX9_putIn 0 [some (.ref 0), some (.int ((1 <<< ((τ8.2.1 9 1) &&& 31)) - 1)), none, none, none] [] τ8 (nh_qi fun r12 τ11 => Q (some (.int (if 0 ≤ r12 then r12 else 500))) τ11)))))) ∧ (¬ (σ.1 0 34 ≤ x3) → ((vp_in x3 9) ∧ (vp_in x3 20) ∧ nh_E kX9_cried 15 [some (.ref 0), some (.int x1), some (.int x2), some (.int (x3 + 1))] [] (nh_wa σ 17 x3.toNatClampNeg (σ.2.1 22 x3.toNatClampNeg)) Q))) : nh_E kX9_cried 15 [some (.ref 0), some (.int x1), some (.int x2), some (.int x3)] [] σ Q := by
  refine nE_iload_n dX9_cried_15 rfl rfl ?_
  refine nE_aload_n dX9_cried_16 rfl rfl ?_
  refine nE_getI fl_X9_271 sR_0 rfl dX9_cried_17 ?_
  refine nE_icmp_ge (tgt := 41) dX9_cried_20 (by decide) ⟨fun c1 => ?_, fun c1 => ?_⟩
  · have h := h.1 c1
    refine nE_aload_n dX9_cried_41 rfl rfl ?_
    refine nE_iload_n dX9_cried_42 rfl rfl ?_
    refine nE_iconst (v := 0) dX9_cried_43 (by decide) ?_
    refine nE_iload_n dX9_cried_44 rfl rfl ?_
    refine nE_iload_n dX9_cried_45 rfl rfl ?_
    refine nE_aload_n dX9_cried_46 rfl rfl ?_
    refine nE_getC fl_X9_7 sR_0 rfl dX9_cried_47 ?_
    refine nE_bipush (v := 24) dX9_cried_50 (by decide) ?_
    refine nG_iald (j := 24) sR_1 (by decide) dX9_cried_52 ⟨(nh_vi (by decide)), ?_⟩
    refine nE_callV (As := [.int x2, .int 0, .int x1, .int x2, .int (σ.2.1 1 24)]) yf_X9_goRound ⟨by decide, by decide⟩ rfl rfl sR_0 rfl vl_X9_219 dX9_cried_53 rfl rfl (Nat.le_of_ble_eq_true rfl) (Nat.le_of_ble_eq_true rfl) (nE_mono (fun z4 τ2 h => ?_) h)
    obtain ⟨rfl, h⟩ := h
    refine nE_aload_n dX9_cried_56 rfl rfl ?_
    refine nE_iload_n dX9_cried_57 rfl rfl ?_
    refine nE_callV (As := [.int x1]) yf_X9_arriveAwake ⟨by decide, by decide⟩ rfl rfl sR_0 rfl vl_X9_223 dX9_cried_58 rfl rfl (Nat.le_of_ble_eq_true rfl) (Nat.le_of_ble_eq_true rfl) (nE_mono (fun z7 τ5 h => ?_) h)
    obtain ⟨rfl, h⟩ := h
    refine nE_aload_n dX9_cried_61 rfl rfl ?_
    refine nE_callV (As := []) yf_X9_comeAll ⟨by decide, by decide⟩ rfl rfl sR_0 rfl vl_X9_233 dX9_cried_62 rfl rfl (Nat.le_of_ble_eq_true rfl) (Nat.le_of_ble_eq_true rfl) (nE_mono (fun z10 τ8 h => ?_) h)
    obtain ⟨rfl, h⟩ := h
    refine nE_aload_n dX9_cried_65 rfl rfl ?_
    refine nE_aload_n dX9_cried_66 rfl rfl ?_
    refine nE_callV (As := []) yf_X9_allParts ⟨by decide, by decide⟩ rfl rfl sR_0 rfl vl_X9_236 dX9_cried_67 rfl rfl (Nat.le_of_ble_eq_true rfl) (Nat.le_of_ble_eq_true rfl) (p_X9_allParts ?_)
    refine nE_callV (As := [.int ((1 <<< ((τ8.2.1 9 1) &&& 31)) - 1)]) yf_X9_putIn ⟨by decide, by decide⟩ rfl rfl sR_0 rfl vl_X9_239 dX9_cried_70 rfl rfl (Nat.le_of_ble_eq_true rfl) (Nat.le_of_ble_eq_true rfl) (nE_mono (fun z13 τ11 h => ?_) h)
    obtain ⟨r12, rfl, h⟩ := h
    refine nE_callS (As := [.int r12]) yf_X9_held ⟨by decide, by decide⟩ rfl sl_X9_256 dX9_cried_73 rfl rfl (Nat.le_of_ble_eq_true rfl) (Nat.le_of_ble_eq_true rfl) (p_X9_held _ ?_)
    exact nE_iret dX9_cried_76 rfl h
  · have h := h.2 c1
    refine nE_aload_n dX9_cried_23 rfl rfl ?_
    refine nE_getC fl_X9_63 sR_0 rfl dX9_cried_24 ?_
    refine nE_iload_n dX9_cried_27 rfl rfl ?_
    refine nE_aload_n dX9_cried_28 rfl rfl ?_
    refine nE_getC fl_X9_78 sR_0 rfl dX9_cried_29 ?_
    refine nE_iload_n dX9_cried_32 rfl rfl ?_
    obtain ⟨g14, h⟩ := h
    refine nG_iald (j := x3.toNatClampNeg) sR_22 rfl dX9_cried_33 ⟨g14, ?_⟩
    obtain ⟨g15, h⟩ := h
    refine nG_iast (j := x3.toNatClampNeg) sR_17 rfl dX9_cried_34 ⟨g15, ?_⟩
    refine nE_iinc (v := x3 + 1) dX9_cried_35 rfl rfl (by decide) rfl ?_
    refine nE_goto (tgt := 15) dX9_cried_38 (by decide) ?_
    exact h
set_option maxRecDepth 20000 in
theorem sg_X9_crier_0 (x1 : Int32) (x2 : Int32) (x3 : Int32) {σ : nh_S} {Q : Option Value → nh_S → Prop} (h : (¬ (¬ (x1 < 0) ∧ ¬ ((σ.2.1 9 0) - 1 < x1)) → (Q (some (.int (-1000001))) σ)) ∧ (¬ (x1 < 0) ∧ ¬ ((σ.2.1 9 0) - 1 < x1) → ((¬ (x2 < 0) ∧ ¬ ((σ.2.1 9 0) - 1 < x2) → (nh_E kX9_crier 27 [some (.ref 0), some (.int x1), some (.int x2), some (.int x3), some (.int 0), none, none, none] [] (nh_si σ 0 34 0) Q)) ∧ (¬ (¬ (x2 < 0) ∧ ¬ ((σ.2.1 9 0) - 1 < x2)) → (Q (some (.int (-1000001))) σ))))) : nh_E kX9_crier 0 [some (.ref 0), some (.int x1), some (.int x2), some (.int x3), none, none, none, none] [] σ Q := by
  refine nE_aload_n dX9_crier_0 rfl rfl ?_
  refine nE_iload_n dX9_crier_1 rfl rfl ?_
  refine nE_callV (As := [.int x1]) yf_X9_isHouse ⟨by decide, by decide⟩ rfl rfl sR_0 rfl vl_X9_193 dX9_crier_2 rfl rfl (Nat.le_of_ble_eq_true rfl) (Nat.le_of_ble_eq_true rfl) (p_X9_isHouse _ ?_)
  refine nE_ifb_eq (tgt := 16) dX9_crier_5 (by decide) ⟨fun c1 => ?_, fun c1 => ?_⟩
  · have h := h.1 c1
    refine nE_ldc kc_X9_197 dX9_crier_16 ?_
    exact nE_iret dX9_crier_18 rfl h
  · have h := h.2 c1
    refine nE_aload_n dX9_crier_8 rfl rfl ?_
    refine nE_iload_n dX9_crier_9 rfl rfl ?_
    refine nE_callV (As := [.int x2]) yf_X9_isHouse ⟨by decide, by decide⟩ rfl rfl sR_0 rfl vl_X9_193 dX9_crier_10 rfl rfl (Nat.le_of_ble_eq_true rfl) (Nat.le_of_ble_eq_true rfl) (p_X9_isHouse _ ?_)
    refine nE_ifb_ne (tgt := 19) dX9_crier_13 (by decide) ⟨fun c2 => ?_, fun c2 => ?_⟩
    · have h := h.1 c2
      refine nE_aload_n dX9_crier_19 rfl rfl ?_
      refine nE_iconst (v := 0) dX9_crier_20 (by decide) ?_
      refine nE_putI fl_X9_271 sR_0 rfl ⟨rfl, rfl⟩ dX9_crier_21 ?_
      refine nE_iconst (v := 0) dX9_crier_24 (by decide) ?_
      refine nE_istore dX9_crier_25 rfl (by decide) ?_
      exact h
    · have h := h.2 c2
      refine nE_ldc kc_X9_197 dX9_crier_16 ?_
      exact nE_iret dX9_crier_18 rfl h
set_option maxRecDepth 20000 in
theorem sg_X9_crier_27 (x1 : Int32) (x2 : Int32) (x3 : Int32) (x4 : Int32) {σ : nh_S} {Q : Option Value → nh_S → Prop} (h : (σ.2.1 9 0 ≤ x4 → ((σ.1 0 34 ≤ 7 → (nh_E kX9_crier 98 [some (.ref 0), some (.int x1), some (.int x2), some (.int x3), some (.int (-1)), some (.int 1), none, none] [] σ Q)) ∧ (¬ (σ.1 0 34 ≤ 7) → (Q (some (.int (-1000003))) σ)))) ∧ (¬ (σ.2.1 9 0 ≤ x4) → ((x4 = x2 → (nh_E kX9_crier 27 [some (.ref 0), some (.int x1), some (.int x2), some (.int x3), some (.int (x4 + 1)), none, none, none] [] σ Q)) ∧ (¬ (x4 = x2) → (nh_E kX9_partsAt 0 [some (.ref 0), some (.int x4), none, none] [] σ (nh_qi fun r5 τ4 => (r5 = 0 → (nh_E kX9_crier 27 [some (.ref 0), some (.int x1), some (.int x2), some (.int x3), some (.int (x4 + 1)), none, none, none] [] τ4 Q)) ∧ (¬ (r5 = 0) → ((vp_in (τ4.1 0 34) 9) ∧ nh_E kX9_crier 27 [some (.ref 0), some (.int x1), some (.int x2), some (.int x3), some (.int (x4 + 1)), none, none, none] [] (nh_si (nh_wa τ4 22 ((τ4.1 0 34).toNatClampNeg) x4) 0 34 ((τ4.1 0 34) + 1)) Q)))))))) : nh_E kX9_crier 27 [some (.ref 0), some (.int x1), some (.int x2), some (.int x3), some (.int x4), none, none, none] [] σ Q := by
  refine nE_iload dX9_crier_27 rfl ?_
  refine nE_aload_n dX9_crier_29 rfl rfl ?_
  refine nE_getC fl_X9_35 sR_0 rfl dX9_crier_30 ?_
  refine nE_iconst (v := 0) dX9_crier_33 (by decide) ?_
  refine nG_iald (j := 0) sR_9 (by decide) dX9_crier_34 ⟨(nh_vi (by decide)), ?_⟩
  refine nE_icmp_ge (tgt := 80) dX9_crier_35 (by decide) ⟨fun c1 => ?_, fun c1 => ?_⟩
  · have h := h.1 c1
    refine nE_aload_n dX9_crier_80 rfl rfl ?_
    refine nE_getI fl_X9_271 sR_0 rfl dX9_crier_81 ?_
    refine nE_bipush (v := 7) dX9_crier_84 (by decide) ?_
    refine nE_icmp_le (tgt := 92) dX9_crier_86 (by decide) ⟨fun c2 => ?_, fun c2 => ?_⟩
    · have h := h.1 c2
      refine nE_iconst (v := (-1)) dX9_crier_92 (by decide) ?_
      refine nE_istore dX9_crier_93 rfl (by decide) ?_
      refine nE_iconst (v := 1) dX9_crier_95 (by decide) ?_
      refine nE_istore dX9_crier_96 rfl (by decide) ?_
      exact h
    · have h := h.2 c2
      refine nE_ldc kc_X9_185 dX9_crier_89 ?_
      exact nE_iret dX9_crier_91 rfl h
  · have h := h.2 c1
    refine nE_iload dX9_crier_38 rfl ?_
    refine nE_iload_n dX9_crier_40 rfl rfl ?_
    refine nE_icmp_eq (tgt := 74) dX9_crier_41 (by decide) ⟨fun c3 => ?_, fun c3 => ?_⟩
    · have h := h.1 c3
      refine nE_iinc (v := x4 + 1) dX9_crier_74 rfl rfl (by decide) rfl ?_
      refine nE_goto (tgt := 27) dX9_crier_77 (by decide) ?_
      exact h
    · have h := h.2 c3
      refine nE_aload_n dX9_crier_44 rfl rfl ?_
      refine nE_iload dX9_crier_45 rfl ?_
      refine nE_callV (As := [.int x4]) yf_X9_partsAt ⟨by decide, by decide⟩ rfl rfl sR_0 rfl vl_X9_200 dX9_crier_47 rfl rfl (Nat.le_of_ble_eq_true rfl) (Nat.le_of_ble_eq_true rfl) (nE_mono (fun z6 τ4 h => ?_) h)
      obtain ⟨r5, rfl, h⟩ := h
      refine nE_if_eq (tgt := 74) dX9_crier_50 (by decide) ⟨fun c7 => ?_, fun c7 => ?_⟩
      · have h := h.1 c7
        refine nE_iinc (v := x4 + 1) dX9_crier_74 rfl rfl (by decide) rfl ?_
        refine nE_goto (tgt := 27) dX9_crier_77 (by decide) ?_
        exact h
      · have h := h.2 c7
        refine nE_aload_n dX9_crier_53 rfl rfl ?_
        refine nE_getC fl_X9_78 sR_0 rfl dX9_crier_54 ?_
        refine nE_aload_n dX9_crier_57 rfl rfl ?_
        refine nE_getI fl_X9_271 sR_0 rfl dX9_crier_58 ?_
        refine nE_iload dX9_crier_61 rfl ?_
        obtain ⟨g8, h⟩ := h
        refine nG_iast (j := (τ4.1 0 34).toNatClampNeg) sR_22 rfl dX9_crier_63 ⟨g8, ?_⟩
        refine nE_aload_n dX9_crier_64 rfl rfl ?_
        refine nE_dup dX9_crier_65 rfl ?_
        refine nE_getI fl_X9_271 sR_0 rfl dX9_crier_66 ?_
        refine nE_iconst (v := 1) dX9_crier_69 (by decide) ?_
        refine nE_iadd dX9_crier_70 ?_
        refine nE_putI fl_X9_271 sR_0 rfl ⟨rfl, rfl⟩ dX9_crier_71 ?_
        refine nE_iinc (v := x4 + 1) dX9_crier_74 rfl rfl (by decide) rfl ?_
        refine nE_goto (tgt := 27) dX9_crier_77 (by decide) ?_
        exact h
set_option maxRecDepth 20000 in
theorem sg_X9_crier_98 (x1 : Int32) (x2 : Int32) (x3 : Int32) (x4 : Int32) (x5 : Int32) {σ : nh_S} {Q : Option Value → nh_S → Prop} (h : (x5 = 0 → (((¬ (x3 = (-1)) → ((¬ (x3 < 0) ∧ ¬ (((σ.1 0 34) - 1) < x3)) → (vp_in x3 9)))) ∧ Q (some (.int (if x3 = (-1) then x4 else (if ¬ (x3 < 0) ∧ ¬ (((σ.1 0 34) - 1) < x3) then σ.2.1 23 x3.toNatClampNeg else (-1))))) σ)) ∧ (¬ (x5 = 0) → (nh_E kX9_cried 0 [some (.ref 0), some (.int x1), some (.int x2), none] [] σ (nh_qi fun r14 τ13 => (x4 < 0 → (nh_E kX9_crier 130 [some (.ref 0), some (.int x1), some (.int x2), some (.int x3), some (.int r14), none, none, some (.int 0)] [] τ13 Q)) ∧ (¬ (x4 < 0) → ((x4 ≤ r14 → (nh_E kX9_nextRound 0 [some (.ref 0), none, none, none, none, none] [] τ13 (nh_qi fun r19 τ18 => nh_E kX9_crier 98 [some (.ref 0), some (.int x1), some (.int x2), some (.int x3), some (.int x4), some (.int r19), none, none] [] τ18 Q))) ∧ (¬ (x4 ≤ r14) → (nh_E kX9_crier 130 [some (.ref 0), some (.int x1), some (.int x2), some (.int x3), some (.int r14), none, none, some (.int 0)] [] τ13 Q)))))))) : nh_E kX9_crier 98 [some (.ref 0), some (.int x1), some (.int x2), some (.int x3), some (.int x4), some (.int x5), none, none] [] σ Q := by
  refine nE_iload dX9_crier_98 rfl ?_
  refine nE_if_eq (tgt := 168) dX9_crier_100 (by decide) ⟨fun c1 => ?_, fun c1 => ?_⟩
  · have h := h.1 c1
    refine nE_iload_n dX9_crier_168 rfl rfl ?_
    refine nE_iconst (v := (-1)) dX9_crier_169 (by decide) ?_
    obtain ⟨u3, h⟩ := h
    have j4 : nh_E kX9_crier 204 [some (.ref 0), some (.int x1), some (.int x2), some (.int x3), some (.int x4), some (.int x5), none, none] [.int (if x3 = (-1) then x4 else (if ¬ (x3 < 0) ∧ ¬ (((σ.1 0 34) - 1) < x3) then σ.2.1 23 x3.toNatClampNeg else (-1)))] σ Q := by
      exact nE_iret dX9_crier_204 rfl h
    have u5 := u3
    refine nE_icmp_ne (tgt := 178) dX9_crier_170 (by decide) ⟨fun c6 => ?_, fun c6 => ?_⟩
    · skip
      have f7 : (x3 = (-1)) = False := eq_false c6
      have u8 := (u5 c6)
      refine nE_iload_n dX9_crier_178 rfl rfl ?_
      refine nE_i2l dX9_crier_179 ?_
      refine nE_lconst (v := 0) dX9_crier_180 (by decide) ?_
      refine nE_aload_n dX9_crier_181 rfl rfl ?_
      refine nE_getI fl_X9_271 sR_0 rfl dX9_crier_182 ?_
      refine nE_iconst (v := 1) dX9_crier_185 (by decide) ?_
      refine nE_isub dX9_crier_186 ?_
      refine nE_i2l dX9_crier_187 ?_
      refine nE_callS (As := [.long x3.toInt64, .long 0, .long (((σ.1 0 34) - 1).toInt64)]) yf_X9_in ⟨by decide, by decide⟩ rfl sl_X9_95 dX9_crier_188 rfl rfl (Nat.le_of_ble_eq_true rfl) (Nat.le_of_ble_eq_true rfl) (p_X9_in x3 0 ((σ.1 0 34) - 1) (by decide) rfl ?_)
      refine nE_ifb_eq (tgt := 203) dX9_crier_191 (by decide) ⟨fun c9 => ?_, fun c9 => ?_⟩
      · skip
        have f10 : (¬ (x3 < 0) ∧ ¬ (((σ.1 0 34) - 1) < x3)) = False := eq_false c9
        refine nE_iconst (v := (-1)) dX9_crier_203 (by decide) ?_
        exact nh_topi (show ((if x3 = (-1) then x4 else (if ¬ (x3 < 0) ∧ ¬ (((σ.1 0 34) - 1) < x3) then σ.2.1 23 x3.toNatClampNeg else (-1))) : Int32) = (-1) from by simp only [if_true, if_false, not_true_eq_false, not_false_eq_true, true_and, and_true, false_and, and_false, true_or, or_true, false_or, or_false, if_pos, if_neg, ite_true, ite_false, f7, f10]) j4
      · skip
        have f11 : (¬ (x3 < 0) ∧ ¬ (((σ.1 0 34) - 1) < x3)) = True := eq_true c9
        have g2 := (u8 c9)
        refine nE_aload_n dX9_crier_194 rfl rfl ?_
        refine nE_getC fl_X9_81 sR_0 rfl dX9_crier_195 ?_
        refine nE_iload_n dX9_crier_198 rfl rfl ?_
        refine nG_iald (j := x3.toNatClampNeg) sR_23 rfl dX9_crier_199 ⟨g2, ?_⟩
        refine nE_goto (tgt := 204) dX9_crier_200 (by decide) ?_
        exact nh_topi (show ((if x3 = (-1) then x4 else (if ¬ (x3 < 0) ∧ ¬ (((σ.1 0 34) - 1) < x3) then σ.2.1 23 x3.toNatClampNeg else (-1))) : Int32) = σ.2.1 23 x3.toNatClampNeg from by simp only [if_true, if_false, not_true_eq_false, not_false_eq_true, true_and, and_true, false_and, and_false, true_or, or_true, false_or, or_false, if_pos, if_neg, ite_true, ite_false, f7, f11]) j4
    · skip
      have f12 : (x3 = (-1)) = True := eq_true c6
      refine nE_iload dX9_crier_173 rfl ?_
      refine nE_goto (tgt := 204) dX9_crier_175 (by decide) ?_
      exact nh_topi (show ((if x3 = (-1) then x4 else (if ¬ (x3 < 0) ∧ ¬ (((σ.1 0 34) - 1) < x3) then σ.2.1 23 x3.toNatClampNeg else (-1))) : Int32) = x4 from by simp only [if_true, if_false, not_true_eq_false, not_false_eq_true, true_and, and_true, false_and, and_false, true_or, or_true, false_or, or_false, if_pos, if_neg, ite_true, ite_false, f12]) j4
  · have h := h.2 c1
    refine nE_aload_n dX9_crier_103 rfl rfl ?_
    refine nE_iload_n dX9_crier_104 rfl rfl ?_
    refine nE_iload_n dX9_crier_105 rfl rfl ?_
    refine nE_callV (As := [.int x1, .int x2]) yf_X9_cried ⟨by decide, by decide⟩ rfl rfl sR_0 rfl vl_X9_274 dX9_crier_106 rfl rfl (Nat.le_of_ble_eq_true rfl) (Nat.le_of_ble_eq_true rfl) (nE_mono (fun z15 τ13 h => ?_) h)
    obtain ⟨r14, rfl, h⟩ := h
    refine nE_istore dX9_crier_109 rfl (by decide) ?_
    refine nE_iload dX9_crier_111 rfl ?_
    refine nE_if_lt (tgt := 123) dX9_crier_113 (by decide) ⟨fun c16 => ?_, fun c16 => ?_⟩
    · have h := h.1 c16
      refine nE_iload dX9_crier_123 rfl ?_
      refine nE_istore dX9_crier_125 rfl (by decide) ?_
      refine nE_iconst (v := 0) dX9_crier_127 (by decide) ?_
      refine nE_istore dX9_crier_128 rfl (by decide) ?_
      refine nE_weak 5 ?_
      refine nE_weak 6 ?_
      exact h
    · have h := h.2 c16
      refine nE_iload dX9_crier_116 rfl ?_
      refine nE_iload dX9_crier_118 rfl ?_
      refine nE_icmp_ge (tgt := 159) dX9_crier_120 (by decide) ⟨fun c17 => ?_, fun c17 => ?_⟩
      · have h := h.1 c17
        refine nE_aload_n dX9_crier_159 rfl rfl ?_
        refine nE_callV (As := []) yf_X9_nextRound ⟨by decide, by decide⟩ rfl rfl sR_0 rfl vl_X9_277 dX9_crier_160 rfl rfl (Nat.le_of_ble_eq_true rfl) (Nat.le_of_ble_eq_true rfl) (nE_mono (fun z20 τ18 h => ?_) h)
        obtain ⟨r19, rfl, h⟩ := h
        refine nE_istore dX9_crier_163 rfl (by decide) ?_
        refine nE_goto (tgt := 98) dX9_crier_165 (by decide) ?_
        refine nE_weak 6 ?_
        exact h
      · have h := h.2 c17
        refine nE_iload dX9_crier_123 rfl ?_
        refine nE_istore dX9_crier_125 rfl (by decide) ?_
        refine nE_iconst (v := 0) dX9_crier_127 (by decide) ?_
        refine nE_istore dX9_crier_128 rfl (by decide) ?_
        refine nE_weak 5 ?_
        refine nE_weak 6 ?_
        exact h
set_option maxRecDepth 20000 in
theorem sg_X9_crier_130 (x1 : Int32) (x2 : Int32) (x3 : Int32) (x4 : Int32) (x7 : Int32) {σ : nh_S} {Q : Option Value → nh_S → Prop} (h : (σ.1 0 34 ≤ x7 → (nh_E kX9_nextRound 0 [some (.ref 0), none, none, none, none, none] [] σ (nh_qi fun r3 τ2 => nh_E kX9_crier 98 [some (.ref 0), some (.int x1), some (.int x2), some (.int x3), some (.int x4), some (.int r3), none, none] [] τ2 Q))) ∧ (¬ (σ.1 0 34 ≤ x7) → ((vp_in x7 9) ∧ nh_E kX9_crier 130 [some (.ref 0), some (.int x1), some (.int x2), some (.int x3), some (.int x4), none, none, some (.int (x7 + 1))] [] (nh_wa σ 23 x7.toNatClampNeg (σ.2.1 22 x7.toNatClampNeg)) Q))) : nh_E kX9_crier 130 [some (.ref 0), some (.int x1), some (.int x2), some (.int x3), some (.int x4), none, none, some (.int x7)] [] σ Q := by
  refine nE_iload dX9_crier_130 rfl ?_
  refine nE_aload_n dX9_crier_132 rfl rfl ?_
  refine nE_getI fl_X9_271 sR_0 rfl dX9_crier_133 ?_
  refine nE_icmp_ge (tgt := 159) dX9_crier_136 (by decide) ⟨fun c1 => ?_, fun c1 => ?_⟩
  · have h := h.1 c1
    refine nE_aload_n dX9_crier_159 rfl rfl ?_
    refine nE_callV (As := []) yf_X9_nextRound ⟨by decide, by decide⟩ rfl rfl sR_0 rfl vl_X9_277 dX9_crier_160 rfl rfl (Nat.le_of_ble_eq_true rfl) (Nat.le_of_ble_eq_true rfl) (nE_mono (fun z4 τ2 h => ?_) h)
    obtain ⟨r3, rfl, h⟩ := h
    refine nE_istore dX9_crier_163 rfl (by decide) ?_
    refine nE_goto (tgt := 98) dX9_crier_165 (by decide) ?_
    refine nE_weak 7 ?_
    exact h
  · have h := h.2 c1
    refine nE_aload_n dX9_crier_139 rfl rfl ?_
    refine nE_getC fl_X9_81 sR_0 rfl dX9_crier_140 ?_
    refine nE_iload dX9_crier_143 rfl ?_
    refine nE_aload_n dX9_crier_145 rfl rfl ?_
    refine nE_getC fl_X9_78 sR_0 rfl dX9_crier_146 ?_
    refine nE_iload dX9_crier_149 rfl ?_
    obtain ⟨g5, h⟩ := h
    refine nG_iald (j := x7.toNatClampNeg) sR_22 rfl dX9_crier_151 ⟨g5, ?_⟩
    refine nG_iast (j := x7.toNatClampNeg) sR_23 rfl dX9_crier_152 ⟨g5, ?_⟩
    refine nE_iinc (v := x7 + 1) dX9_crier_153 rfl rfl (by decide) rfl ?_
    refine nE_goto (tgt := 130) dX9_crier_156 (by decide) ?_
    exact h
set_option maxRecDepth 20000 in
theorem sg_X9_keepAt_0 (x1 : Int32) (x2 : Int32) {σ : nh_S} {Q : Option Value → nh_S → Prop} (h : (¬ (¬ (x1 < 0) ∧ ¬ ((σ.2.1 9 1) - 1 < x1)) → (Q (some (.int (-1000001))) σ)) ∧ (¬ (x1 < 0) ∧ ¬ ((σ.2.1 9 1) - 1 < x1) → ((¬ (x2 < 0) ∧ ¬ ((σ.2.1 9 0) - 1 < x2) → ((vp_in x1 78) ∧ Q (some (.int (σ.2.1 1 x1.toNatClampNeg))) (nh_wa σ 1 x1.toNatClampNeg x2))) ∧ (¬ (¬ (x2 < 0) ∧ ¬ ((σ.2.1 9 0) - 1 < x2)) → (Q (some (.int (-1000001))) σ))))) : nh_E kX9_keepAt 0 [some (.ref 0), some (.int x1), some (.int x2), none] [] σ Q := by
  refine nE_aload_n dX9_keepAt_0 rfl rfl ?_
  refine nE_iload_n dX9_keepAt_1 rfl rfl ?_
  refine nE_callV (As := [.int x1]) yf_X9_isPart ⟨by decide, by decide⟩ rfl rfl sR_0 rfl vl_X9_206 dX9_keepAt_2 rfl rfl (Nat.le_of_ble_eq_true rfl) (Nat.le_of_ble_eq_true rfl) (p_X9_isPart _ ?_)
  refine nE_ifb_eq (tgt := 16) dX9_keepAt_5 (by decide) ⟨fun c1 => ?_, fun c1 => ?_⟩
  · have h := h.1 c1
    refine nE_ldc kc_X9_197 dX9_keepAt_16 ?_
    exact nE_iret dX9_keepAt_18 rfl h
  · have h := h.2 c1
    refine nE_aload_n dX9_keepAt_8 rfl rfl ?_
    refine nE_iload_n dX9_keepAt_9 rfl rfl ?_
    refine nE_callV (As := [.int x2]) yf_X9_isHouse ⟨by decide, by decide⟩ rfl rfl sR_0 rfl vl_X9_193 dX9_keepAt_10 rfl rfl (Nat.le_of_ble_eq_true rfl) (Nat.le_of_ble_eq_true rfl) (p_X9_isHouse _ ?_)
    refine nE_ifb_ne (tgt := 19) dX9_keepAt_13 (by decide) ⟨fun c2 => ?_, fun c2 => ?_⟩
    · have h := h.1 c2
      refine nE_aload_n dX9_keepAt_19 rfl rfl ?_
      refine nE_getC fl_X9_7 sR_0 rfl dX9_keepAt_20 ?_
      refine nE_iload_n dX9_keepAt_23 rfl rfl ?_
      obtain ⟨g3, h⟩ := h
      refine nG_iald (j := x1.toNatClampNeg) sR_1 rfl dX9_keepAt_24 ⟨g3, ?_⟩
      refine nE_istore_n dX9_keepAt_25 rfl rfl (by decide) ?_
      refine nE_aload_n dX9_keepAt_26 rfl rfl ?_
      refine nE_getC fl_X9_7 sR_0 rfl dX9_keepAt_27 ?_
      refine nE_iload_n dX9_keepAt_30 rfl rfl ?_
      refine nE_iload_n dX9_keepAt_31 rfl rfl ?_
      refine nG_iast (j := x1.toNatClampNeg) sR_1 rfl dX9_keepAt_32 ⟨g3, ?_⟩
      refine nE_iload_n dX9_keepAt_33 rfl rfl ?_
      exact nE_iret dX9_keepAt_34 rfl h
    · have h := h.2 c2
      refine nE_ldc kc_X9_197 dX9_keepAt_16 ?_
      exact nE_iret dX9_keepAt_18 rfl h
set_option maxRecDepth 20000 in
theorem sg_X9_holds_0 (x1 : Int32) (x2 : Int32) {σ : nh_S} {Q : Option Value → nh_S → Prop} (h : nh_E kX9_holds 5 [some (.ref 0), some (.int x1), some (.int x2), some (.int 1), some (.int 0), none] [] σ Q) : nh_E kX9_holds 0 [some (.ref 0), some (.int x1), some (.int x2), none, none, none] [] σ Q := by
  refine nE_iconst (v := 1) dX9_holds_0 (by decide) ?_
  refine nE_istore_n dX9_holds_1 rfl rfl (by decide) ?_
  refine nE_iconst (v := 0) dX9_holds_2 (by decide) ?_
  refine nE_istore dX9_holds_3 rfl (by decide) ?_
  exact h
set_option maxRecDepth 20000 in
theorem sg_X9_holds_5 (x1 : Int32) (x2 : Int32) (x3 : Int32) (x4 : Int32) {σ : nh_S} {Q : Option Value → nh_S → Prop} (h : (σ.2.1 9 0 ≤ x4 → ((x3 = 0 ∨ x3 = 1) ∧ Q (some (.int x3)) σ)) ∧ (¬ (σ.2.1 9 0 ≤ x4) → ((x3 = 0 → ((x3 = 0 ∨ x3 = 1) ∧ Q (some (.int x3)) σ)) ∧ (¬ (x3 = 0) → (nh_E kX9_standsBy 0 [some (.ref 0), some (.int x4), some (.int x1), some (.int 0)] [] σ (nh_qi fun r4 τ3 => nh_E kX9_holds 5 [some (.ref 0), some (.int x1), some (.int x2), some (.int (if ¬ (r4 < 0) ∧ (¬ (x2 < r4)) then 1 else 0)), some (.int (x4 + 1)), none] [] τ3 Q)))))) : nh_E kX9_holds 5 [some (.ref 0), some (.int x1), some (.int x2), some (.int x3), some (.int x4), none] [] σ Q := by
  refine nE_iload dX9_holds_5 rfl ?_
  refine nE_aload_n dX9_holds_7 rfl rfl ?_
  refine nE_getC fl_X9_35 sR_0 rfl dX9_holds_8 ?_
  refine nE_iconst (v := 0) dX9_holds_11 (by decide) ?_
  refine nG_iald (j := 0) sR_9 (by decide) dX9_holds_12 ⟨(nh_vi (by decide)), ?_⟩
  refine nE_icmp_ge (tgt := 53) dX9_holds_13 (by decide) ⟨fun c1 => ?_, fun c1 => ?_⟩
  · have h := h.1 c1
    refine nE_iload_n dX9_holds_53 rfl rfl ?_
    exact nE_zret (ty := .boolean) dX9_holds_54 rfl (nh_n01 h.1) h.2
  · have h := h.2 c1
    refine nE_iload_n dX9_holds_16 rfl rfl ?_
    refine nE_if_eq (tgt := 53) dX9_holds_17 (by decide) ⟨fun c2 => ?_, fun c2 => ?_⟩
    · have h := h.1 c2
      refine nE_iload_n dX9_holds_53 rfl rfl ?_
      exact nE_zret (ty := .boolean) dX9_holds_54 rfl (nh_n01 h.1) h.2
    · have h := h.2 c2
      refine nE_aload_n dX9_holds_20 rfl rfl ?_
      refine nE_iload dX9_holds_21 rfl ?_
      refine nE_iload_n dX9_holds_23 rfl rfl ?_
      refine nE_iconst (v := 0) dX9_holds_24 (by decide) ?_
      refine nE_callV (As := [.int x4, .int x1, .int 0]) yf_X9_standsBy ⟨by decide, by decide⟩ rfl rfl sR_0 rfl vl_X9_242 dX9_holds_25 rfl rfl (Nat.le_of_ble_eq_true rfl) (Nat.le_of_ble_eq_true rfl) (nE_mono (fun z5 τ3 h => ?_) h)
      obtain ⟨r4, rfl, h⟩ := h
      refine nE_istore dX9_holds_28 rfl (by decide) ?_
      refine nE_iload dX9_holds_30 rfl ?_
      have j6 : nh_E kX9_holds 46 [some (.ref 0), some (.int x1), some (.int x2), some (.int x3), some (.int x4), some (.int r4)] [.int (if ¬ (r4 < 0) ∧ (¬ (x2 < r4)) then 1 else 0)] τ3 Q := by
        refine nE_istore_n dX9_holds_46 rfl rfl (by decide) ?_
        refine nE_iinc (v := x4 + 1) dX9_holds_47 rfl rfl (by decide) rfl ?_
        refine nE_goto (tgt := 5) dX9_holds_50 (by decide) ?_
        refine nE_weak 5 ?_
        exact h
      refine nE_if_lt (tgt := 45) dX9_holds_32 (by decide) ⟨fun c7 => ?_, fun c7 => ?_⟩
      · skip
        have f8 : (r4 < 0) = True := eq_true c7
        refine nE_iconst (v := 0) dX9_holds_45 (by decide) ?_
        exact nh_topi (show ((if ¬ (r4 < 0) ∧ (¬ (x2 < r4)) then 1 else 0) : Int32) = 0 from by simp only [if_true, if_false, not_true_eq_false, not_false_eq_true, true_and, and_true, false_and, and_false, true_or, or_true, false_or, or_false, if_pos, if_neg, ite_true, ite_false, f8]) j6
      · skip
        have f9 : (r4 < 0) = False := eq_false c7
        refine nE_iload dX9_holds_35 rfl ?_
        refine nE_iload_n dX9_holds_37 rfl rfl ?_
        refine nE_icmp_gt (tgt := 45) dX9_holds_38 (by decide) ⟨fun c10 => ?_, fun c10 => ?_⟩
        · skip
          have f11 : (x2 < r4) = True := eq_true c10
          refine nE_iconst (v := 0) dX9_holds_45 (by decide) ?_
          exact nh_topi (show ((if ¬ (r4 < 0) ∧ (¬ (x2 < r4)) then 1 else 0) : Int32) = 0 from by simp only [if_true, if_false, not_true_eq_false, not_false_eq_true, true_and, and_true, false_and, and_false, true_or, or_true, false_or, or_false, if_pos, if_neg, ite_true, ite_false, f9, f11]) j6
        · skip
          have f12 : (x2 < r4) = False := eq_false c10
          refine nE_iconst (v := 1) dX9_holds_41 (by decide) ?_
          refine nE_goto (tgt := 46) dX9_holds_42 (by decide) ?_
          exact nh_topi (show ((if ¬ (r4 < 0) ∧ (¬ (x2 < r4)) then 1 else 0) : Int32) = 1 from by simp only [if_true, if_false, not_true_eq_false, not_false_eq_true, true_and, and_true, false_and, and_false, true_or, or_true, false_or, or_false, if_pos, if_neg, ite_true, ite_false, f9, f12]) j6
set_option maxRecDepth 20000 in
theorem sg_X9_movesTwo_0 (x1 : Int32) (x2 : Int32) (x3 : Int32) {σ : nh_S} {Q : Option Value → nh_S → Prop} (h : nh_E kX9_movesTwo 5 [some (.ref 0), some (.int x1), some (.int x2), none, some (.int (x3 + 1)), none, none, none] [] σ Q) : nh_E kX9_movesTwo 0 [some (.ref 0), some (.int x1), some (.int x2), some (.int x3), none, none, none, none] [] σ Q := by
  refine nE_iload_n dX9_movesTwo_0 rfl rfl ?_
  refine nE_iconst (v := 1) dX9_movesTwo_1 (by decide) ?_
  refine nE_iadd dX9_movesTwo_2 ?_
  refine nE_istore dX9_movesTwo_3 rfl (by decide) ?_
  refine nE_weak 3 ?_
  exact h
set_option maxRecDepth 20000 in
theorem sg_X9_movesTwo_5 (x1 : Int32) (x2 : Int32) (x4 : Int32) {σ : nh_S} {Q : Option Value → nh_S → Prop} (h : (σ.2.1 9 1 ≤ x4 → (Q (some (.int 0)) σ)) ∧ (¬ (σ.2.1 9 1 ≤ x4) → ((vp_in x4 78) ∧ nh_E kX9_movesTwo 28 [some (.ref 0), some (.int x1), some (.int x2), none, some (.int x4), some (.int (σ.2.1 1 x4.toNatClampNeg)), some (.int 0), none] [] σ Q))) : nh_E kX9_movesTwo 5 [some (.ref 0), some (.int x1), some (.int x2), none, some (.int x4), none, none, none] [] σ Q := by
  refine nE_iload dX9_movesTwo_5 rfl ?_
  refine nE_aload_n dX9_movesTwo_7 rfl rfl ?_
  refine nE_getC fl_X9_35 sR_0 rfl dX9_movesTwo_8 ?_
  refine nE_iconst (v := 1) dX9_movesTwo_11 (by decide) ?_
  refine nG_iald (j := 1) sR_9 (by decide) dX9_movesTwo_12 ⟨(nh_vi (by decide)), ?_⟩
  refine nE_icmp_ge (tgt := 115) dX9_movesTwo_13 (by decide) ⟨fun c1 => ?_, fun c1 => ?_⟩
  · have h := h.1 c1
    refine nE_iconst (v := 0) dX9_movesTwo_115 (by decide) ?_
    exact nE_zret (ty := .boolean) dX9_movesTwo_116 rfl (by decide) h
  · have h := h.2 c1
    refine nE_aload_n dX9_movesTwo_16 rfl rfl ?_
    refine nE_getC fl_X9_7 sR_0 rfl dX9_movesTwo_17 ?_
    refine nE_iload dX9_movesTwo_20 rfl ?_
    obtain ⟨g2, h⟩ := h
    refine nG_iald (j := x4.toNatClampNeg) sR_1 rfl dX9_movesTwo_22 ⟨g2, ?_⟩
    refine nE_istore dX9_movesTwo_23 rfl (by decide) ?_
    refine nE_iconst (v := 0) dX9_movesTwo_25 (by decide) ?_
    refine nE_istore dX9_movesTwo_26 rfl (by decide) ?_
    exact h
set_option maxRecDepth 20000 in
theorem sg_X9_movesTwo_28 (x1 : Int32) (x2 : Int32) (x4 : Int32) (x5 : Int32) (x6 : Int32) {σ : nh_S} {Q : Option Value → nh_S → Prop} (h : (σ.2.1 9 0 ≤ x6 → (nh_E kX9_movesTwo 5 [some (.ref 0), some (.int x1), some (.int x2), none, some (.int (x4 + 1)), none, none, none] [] σ Q)) ∧ (¬ (σ.2.1 9 0 ≤ x6) → ((vp_in x4 78) ∧ (x6 = x5 → (nh_E kX9_movesTwo 28 [some (.ref 0), some (.int x1), some (.int x2), none, some (.int x4), some (.int x5), some (.int (x6 + 1)), none] [] (nh_wa (nh_wa σ 1 x4.toNatClampNeg x6) 1 x4.toNatClampNeg x5) Q)) ∧ (¬ (x6 = x5) → (nh_E kX9_holds 0 [some (.ref 0), some (.int x1), some (.int x2), none, none, none] [] (nh_wa σ 1 x4.toNatClampNeg x6) (nh_qi fun r6 τ5 => (vp_in x4 78) ∧ (¬ (¬ (r6 = 0)) → (nh_E kX9_movesTwo 28 [some (.ref 0), some (.int x1), some (.int x2), none, some (.int x4), some (.int x5), some (.int (x6 + 1)), none] [] (nh_wa τ5 1 x4.toNatClampNeg x5) Q)) ∧ (¬ (r6 = 0) → (Q (some (.int 1)) (nh_wa (nh_wa (nh_wa τ5 1 x4.toNatClampNeg x5) 24 3 x4) 24 4 x6))))))))) : nh_E kX9_movesTwo 28 [some (.ref 0), some (.int x1), some (.int x2), none, some (.int x4), some (.int x5), some (.int x6), none] [] σ Q := by
  refine nE_iload dX9_movesTwo_28 rfl ?_
  refine nE_aload_n dX9_movesTwo_30 rfl rfl ?_
  refine nE_getC fl_X9_35 sR_0 rfl dX9_movesTwo_31 ?_
  refine nE_iconst (v := 0) dX9_movesTwo_34 (by decide) ?_
  refine nG_iald (j := 0) sR_9 (by decide) dX9_movesTwo_35 ⟨(nh_vi (by decide)), ?_⟩
  refine nE_icmp_ge (tgt := 109) dX9_movesTwo_36 (by decide) ⟨fun c1 => ?_, fun c1 => ?_⟩
  · have h := h.1 c1
    refine nE_iinc (v := x4 + 1) dX9_movesTwo_109 rfl rfl (by decide) rfl ?_
    refine nE_goto (tgt := 5) dX9_movesTwo_112 (by decide) ?_
    refine nE_weak 5 ?_
    refine nE_weak 6 ?_
    exact h
  · have h := h.2 c1
    refine nE_aload_n dX9_movesTwo_39 rfl rfl ?_
    refine nE_getC fl_X9_7 sR_0 rfl dX9_movesTwo_40 ?_
    refine nE_iload dX9_movesTwo_43 rfl ?_
    refine nE_iload dX9_movesTwo_45 rfl ?_
    obtain ⟨g2, h⟩ := h
    refine nG_iast (j := x4.toNatClampNeg) sR_1 rfl dX9_movesTwo_47 ⟨g2, ?_⟩
    refine nE_iload dX9_movesTwo_48 rfl ?_
    refine nE_iload dX9_movesTwo_50 rfl ?_
    refine nE_icmp_eq (tgt := 68) dX9_movesTwo_52 (by decide) ⟨fun c3 => ?_, fun c3 => ?_⟩
    · have h := h.1 c3
      refine nE_iconst (v := 0) dX9_movesTwo_68 (by decide) ?_
      refine nE_istore dX9_movesTwo_69 rfl (by decide) ?_
      refine nE_aload_n dX9_movesTwo_71 rfl rfl ?_
      refine nE_getC fl_X9_7 sR_0 rfl dX9_movesTwo_72 ?_
      refine nE_iload dX9_movesTwo_75 rfl ?_
      refine nE_iload dX9_movesTwo_77 rfl ?_
      refine nG_iast (j := x4.toNatClampNeg) sR_1 rfl dX9_movesTwo_79 ⟨g2, ?_⟩
      refine nE_iload dX9_movesTwo_80 rfl ?_
      refine nE_if_eq (tgt := 103) dX9_movesTwo_82 (by decide) ⟨fun c4 => ?_, fun c4 => absurd c4 (by decide)⟩
      refine nE_iinc (v := x6 + 1) dX9_movesTwo_103 rfl rfl (by decide) rfl ?_
      refine nE_goto (tgt := 28) dX9_movesTwo_106 (by decide) ?_
      refine nE_weak 7 ?_
      exact h
    · have h := h.2 c3
      refine nE_aload_n dX9_movesTwo_55 rfl rfl ?_
      refine nE_iload_n dX9_movesTwo_56 rfl rfl ?_
      refine nE_iload_n dX9_movesTwo_57 rfl rfl ?_
      refine nE_callV (As := [.int x1, .int x2]) yf_X9_holds ⟨by decide, by decide⟩ rfl rfl sR_0 rfl vl_X9_281 dX9_movesTwo_58 rfl rfl (Nat.le_of_ble_eq_true rfl) (Nat.le_of_ble_eq_true rfl) (nE_mono (fun z7 τ5 h => ?_) h)
      obtain ⟨r6, rfl, h⟩ := h
      have j10 : nh_E kX9_movesTwo 69 [some (.ref 0), some (.int x1), some (.int x2), none, some (.int x4), some (.int x5), some (.int x6), none] [.int (if ¬ (r6 = 0) then 1 else 0)] τ5 Q := by
        refine nE_istore dX9_movesTwo_69 rfl (by decide) ?_
        refine nE_aload_n dX9_movesTwo_71 rfl rfl ?_
        refine nE_getC fl_X9_7 sR_0 rfl dX9_movesTwo_72 ?_
        refine nE_iload dX9_movesTwo_75 rfl ?_
        refine nE_iload dX9_movesTwo_77 rfl ?_
        obtain ⟨g8, h⟩ := h
        refine nG_iast (j := x4.toNatClampNeg) sR_1 rfl dX9_movesTwo_79 ⟨g8, ?_⟩
        refine nE_iload dX9_movesTwo_80 rfl ?_
        refine nE_ifb_eq (tgt := 103) dX9_movesTwo_82 (by decide) ⟨fun c9 => ?_, fun c9 => ?_⟩
        · have h := h.1 c9
          refine nE_iinc (v := x6 + 1) dX9_movesTwo_103 rfl rfl (by decide) rfl ?_
          refine nE_goto (tgt := 28) dX9_movesTwo_106 (by decide) ?_
          refine nE_weak 7 ?_
          exact h
        · have h := h.2 c9
          refine nE_aload_n dX9_movesTwo_85 rfl rfl ?_
          refine nE_getC fl_X9_84 sR_0 rfl dX9_movesTwo_86 ?_
          refine nE_iconst (v := 3) dX9_movesTwo_89 (by decide) ?_
          refine nE_iload dX9_movesTwo_90 rfl ?_
          refine nG_iast (j := 3) sR_24 (by decide) dX9_movesTwo_92 ⟨(nh_vi (by decide)), ?_⟩
          refine nE_aload_n dX9_movesTwo_93 rfl rfl ?_
          refine nE_getC fl_X9_84 sR_0 rfl dX9_movesTwo_94 ?_
          refine nE_iconst (v := 4) dX9_movesTwo_97 (by decide) ?_
          refine nE_iload dX9_movesTwo_98 rfl ?_
          refine nG_iast (j := 4) sR_24 (by decide) dX9_movesTwo_100 ⟨(nh_vi (by decide)), ?_⟩
          refine nE_iconst (v := 1) dX9_movesTwo_101 (by decide) ?_
          exact nE_zret (ty := .boolean) dX9_movesTwo_102 rfl (by decide) h
      refine nE_if_eq (tgt := 68) dX9_movesTwo_61 (by decide) ⟨fun c11 => ?_, fun c11 => ?_⟩
      · skip
        have f12 : (r6 = 0) = True := eq_true c11
        refine nE_iconst (v := 0) dX9_movesTwo_68 (by decide) ?_
        exact nh_topi (show ((if ¬ (r6 = 0) then 1 else 0) : Int32) = 0 from by simp only [if_true, if_false, not_true_eq_false, not_false_eq_true, true_and, and_true, false_and, and_false, true_or, or_true, false_or, or_false, if_pos, if_neg, ite_true, ite_false, f12]) j10
      · skip
        have f13 : (r6 = 0) = False := eq_false c11
        refine nE_iconst (v := 1) dX9_movesTwo_64 (by decide) ?_
        refine nE_goto (tgt := 69) dX9_movesTwo_65 (by decide) ?_
        exact nh_topi (show ((if ¬ (r6 = 0) then 1 else 0) : Int32) = 1 from by simp only [if_true, if_false, not_true_eq_false, not_false_eq_true, true_and, and_true, false_and, and_false, true_or, or_true, false_or, or_false, if_pos, if_neg, ite_true, ite_false, f13]) j10
set_option maxRecDepth 20000 in
theorem sg_X9_findMoved_0 (x1 : Int32) (x2 : Int32) {σ : nh_S} {Q : Option Value → nh_S → Prop} (h : nh_E kX9_holds 0 [some (.ref 0), some (.int x1), some (.int x2), none, none, none] [] σ (nh_qi fun r2 τ1 => (r2 = 0 → (nh_E kX9_findMoved 13 [some (.ref 0), some (.int x1), some (.int x2), some (.int 1), none, none, none, none] [] τ1 Q)) ∧ (¬ (r2 = 0) → (Q (some (.int 0)) τ1)))) : nh_E kX9_findMoved 0 [some (.ref 0), some (.int x1), some (.int x2), none, none, none, none, none] [] σ Q := by
  refine nE_aload_n dX9_findMoved_0 rfl rfl ?_
  refine nE_iload_n dX9_findMoved_1 rfl rfl ?_
  refine nE_iload_n dX9_findMoved_2 rfl rfl ?_
  refine nE_callV (As := [.int x1, .int x2]) yf_X9_holds ⟨by decide, by decide⟩ rfl rfl sR_0 rfl vl_X9_281 dX9_findMoved_3 rfl rfl (Nat.le_of_ble_eq_true rfl) (Nat.le_of_ble_eq_true rfl) (nE_mono (fun z3 τ1 h => ?_) h)
  obtain ⟨r2, rfl, h⟩ := h
  refine nE_if_eq (tgt := 11) dX9_findMoved_6 (by decide) ⟨fun c4 => ?_, fun c4 => ?_⟩
  · have h := h.1 c4
    refine nE_iconst (v := 1) dX9_findMoved_11 (by decide) ?_
    refine nE_istore_n dX9_findMoved_12 rfl rfl (by decide) ?_
    exact h
  · have h := h.2 c4
    refine nE_iconst (v := 0) dX9_findMoved_9 (by decide) ?_
    exact nE_iret dX9_findMoved_10 rfl h
set_option maxRecDepth 20000 in
theorem sg_X9_findMoved_13 (x1 : Int32) (x2 : Int32) (x3 : Int32) {σ : nh_S} {Q : Option Value → nh_S → Prop} (h : (2 < x3 → (Q (some (.int (-1))) σ)) ∧ (¬ (2 < x3) → (nh_E kX9_findMoved 21 [some (.ref 0), some (.int x1), some (.int x2), some (.int x3), some (.int 0), none, none, none] [] σ Q))) : nh_E kX9_findMoved 13 [some (.ref 0), some (.int x1), some (.int x2), some (.int x3), none, none, none, none] [] σ Q := by
  refine nE_iload_n dX9_findMoved_13 rfl rfl ?_
  refine nE_iconst (v := 2) dX9_findMoved_14 (by decide) ?_
  refine nE_icmp_gt (tgt := 156) dX9_findMoved_15 (by decide) ⟨fun c1 => ?_, fun c1 => ?_⟩
  · have h := h.1 c1
    refine nE_iconst (v := (-1)) dX9_findMoved_156 (by decide) ?_
    exact nE_iret dX9_findMoved_157 rfl h
  · have h := h.2 c1
    refine nE_iconst (v := 0) dX9_findMoved_18 (by decide) ?_
    refine nE_istore dX9_findMoved_19 rfl (by decide) ?_
    exact h
set_option maxRecDepth 20000 in
theorem sg_X9_findMoved_21 (x1 : Int32) (x2 : Int32) (x3 : Int32) (x4 : Int32) {σ : nh_S} {Q : Option Value → nh_S → Prop} (h : (σ.2.1 9 1 ≤ x4 → (nh_E kX9_findMoved 13 [some (.ref 0), some (.int x1), some (.int x2), some (.int (x3 + 1)), none, none, none, none] [] σ Q)) ∧ (¬ (σ.2.1 9 1 ≤ x4) → ((vp_in x4 78) ∧ nh_E kX9_findMoved 44 [some (.ref 0), some (.int x1), some (.int x2), some (.int x3), some (.int x4), some (.int (σ.2.1 1 x4.toNatClampNeg)), some (.int 0), none] [] σ Q))) : nh_E kX9_findMoved 21 [some (.ref 0), some (.int x1), some (.int x2), some (.int x3), some (.int x4), none, none, none] [] σ Q := by
  refine nE_iload dX9_findMoved_21 rfl ?_
  refine nE_aload_n dX9_findMoved_23 rfl rfl ?_
  refine nE_getC fl_X9_35 sR_0 rfl dX9_findMoved_24 ?_
  refine nE_iconst (v := 1) dX9_findMoved_27 (by decide) ?_
  refine nG_iald (j := 1) sR_9 (by decide) dX9_findMoved_28 ⟨(nh_vi (by decide)), ?_⟩
  refine nE_icmp_ge (tgt := 150) dX9_findMoved_29 (by decide) ⟨fun c1 => ?_, fun c1 => ?_⟩
  · have h := h.1 c1
    refine nE_iinc (v := x3 + 1) dX9_findMoved_150 rfl rfl (by decide) rfl ?_
    refine nE_goto (tgt := 13) dX9_findMoved_153 (by decide) ?_
    refine nE_weak 4 ?_
    exact h
  · have h := h.2 c1
    refine nE_aload_n dX9_findMoved_32 rfl rfl ?_
    refine nE_getC fl_X9_7 sR_0 rfl dX9_findMoved_33 ?_
    refine nE_iload dX9_findMoved_36 rfl ?_
    obtain ⟨g2, h⟩ := h
    refine nG_iald (j := x4.toNatClampNeg) sR_1 rfl dX9_findMoved_38 ⟨g2, ?_⟩
    refine nE_istore dX9_findMoved_39 rfl (by decide) ?_
    refine nE_iconst (v := 0) dX9_findMoved_41 (by decide) ?_
    refine nE_istore dX9_findMoved_42 rfl (by decide) ?_
    exact h
set_option maxRecDepth 20000 in
theorem sg_X9_findMoved_44 (x1 : Int32) (x2 : Int32) (x3 : Int32) (x4 : Int32) (x5 : Int32) (x6 : Int32) {σ : nh_S} {Q : Option Value → nh_S → Prop} (h : (σ.2.1 9 0 ≤ x6 → (nh_E kX9_findMoved 21 [some (.ref 0), some (.int x1), some (.int x2), some (.int x3), some (.int (x4 + 1)), none, none, none] [] σ Q)) ∧ (¬ (σ.2.1 9 0 ≤ x6) → ((vp_in x4 78) ∧ (x6 = x5 → (nh_E kX9_findMoved 44 [some (.ref 0), some (.int x1), some (.int x2), some (.int x3), some (.int x4), some (.int x5), some (.int (x6 + 1)), none] [] (nh_wa (nh_wa σ 1 x4.toNatClampNeg x6) 1 x4.toNatClampNeg x5) Q)) ∧ (¬ (x6 = x5) → ((¬ (x3 = 1) → (nh_E kX9_movesTwo 0 [some (.ref 0), some (.int x1), some (.int x2), some (.int x4), none, none, none, none] [] (nh_wa σ 1 x4.toNatClampNeg x6) (nh_qi fun r7 τ6 => (vp_in x4 78) ∧ (¬ (¬ (r7 = 0)) → (nh_E kX9_findMoved 44 [some (.ref 0), some (.int x1), some (.int x2), some (.int x3), some (.int x4), some (.int x5), some (.int (x6 + 1)), none] [] (nh_wa τ6 1 x4.toNatClampNeg x5) Q)) ∧ (¬ (r7 = 0) → (Q (some (.int x3)) (nh_wa (nh_wa (nh_wa τ6 1 x4.toNatClampNeg x5) 24 1 x4) 24 2 x6)))))) ∧ (x3 = 1 → (nh_E kX9_holds 0 [some (.ref 0), some (.int x1), some (.int x2), none, none, none] [] (nh_wa σ 1 x4.toNatClampNeg x6) (nh_qi fun r16 τ15 => (vp_in x4 78) ∧ (¬ (¬ (r16 = 0)) → (nh_E kX9_findMoved 44 [some (.ref 0), some (.int x1), some (.int x2), some (.int x3), some (.int x4), some (.int x5), some (.int (x6 + 1)), none] [] (nh_wa τ15 1 x4.toNatClampNeg x5) Q)) ∧ (¬ (r16 = 0) → (Q (some (.int x3)) (nh_wa (nh_wa (nh_wa τ15 1 x4.toNatClampNeg x5) 24 1 x4) 24 2 x6))))))))))) : nh_E kX9_findMoved 44 [some (.ref 0), some (.int x1), some (.int x2), some (.int x3), some (.int x4), some (.int x5), some (.int x6), none] [] σ Q := by
  refine nE_iload dX9_findMoved_44 rfl ?_
  refine nE_aload_n dX9_findMoved_46 rfl rfl ?_
  refine nE_getC fl_X9_35 sR_0 rfl dX9_findMoved_47 ?_
  refine nE_iconst (v := 0) dX9_findMoved_50 (by decide) ?_
  refine nG_iald (j := 0) sR_9 (by decide) dX9_findMoved_51 ⟨(nh_vi (by decide)), ?_⟩
  refine nE_icmp_ge (tgt := 144) dX9_findMoved_52 (by decide) ⟨fun c1 => ?_, fun c1 => ?_⟩
  · have h := h.1 c1
    refine nE_iinc (v := x4 + 1) dX9_findMoved_144 rfl rfl (by decide) rfl ?_
    refine nE_goto (tgt := 21) dX9_findMoved_147 (by decide) ?_
    refine nE_weak 5 ?_
    refine nE_weak 6 ?_
    exact h
  · have h := h.2 c1
    refine nE_aload_n dX9_findMoved_55 rfl rfl ?_
    refine nE_getC fl_X9_7 sR_0 rfl dX9_findMoved_56 ?_
    refine nE_iload dX9_findMoved_59 rfl ?_
    refine nE_iload dX9_findMoved_61 rfl ?_
    obtain ⟨g2, h⟩ := h
    refine nG_iast (j := x4.toNatClampNeg) sR_1 rfl dX9_findMoved_63 ⟨g2, ?_⟩
    refine nE_iload dX9_findMoved_64 rfl ?_
    refine nE_iload dX9_findMoved_66 rfl ?_
    refine nE_icmp_eq (tgt := 103) dX9_findMoved_68 (by decide) ⟨fun c3 => ?_, fun c3 => ?_⟩
    · have h := h.1 c3
      refine nE_iconst (v := 0) dX9_findMoved_103 (by decide) ?_
      refine nE_istore dX9_findMoved_104 rfl (by decide) ?_
      refine nE_aload_n dX9_findMoved_106 rfl rfl ?_
      refine nE_getC fl_X9_7 sR_0 rfl dX9_findMoved_107 ?_
      refine nE_iload dX9_findMoved_110 rfl ?_
      refine nE_iload dX9_findMoved_112 rfl ?_
      refine nG_iast (j := x4.toNatClampNeg) sR_1 rfl dX9_findMoved_114 ⟨g2, ?_⟩
      refine nE_iload dX9_findMoved_115 rfl ?_
      refine nE_if_eq (tgt := 138) dX9_findMoved_117 (by decide) ⟨fun c4 => ?_, fun c4 => absurd c4 (by decide)⟩
      refine nE_iinc (v := x6 + 1) dX9_findMoved_138 rfl rfl (by decide) rfl ?_
      refine nE_goto (tgt := 44) dX9_findMoved_141 (by decide) ?_
      refine nE_weak 7 ?_
      exact h
    · have h := h.2 c3
      refine nE_iload_n dX9_findMoved_71 rfl rfl ?_
      refine nE_iconst (v := 1) dX9_findMoved_72 (by decide) ?_
      refine nE_icmp_ne (tgt := 88) dX9_findMoved_73 (by decide) ⟨fun c5 => ?_, fun c5 => ?_⟩
      · have h := h.1 c5
        refine nE_aload_n dX9_findMoved_88 rfl rfl ?_
        refine nE_iload_n dX9_findMoved_89 rfl rfl ?_
        refine nE_iload_n dX9_findMoved_90 rfl rfl ?_
        refine nE_iload dX9_findMoved_91 rfl ?_
        refine nE_callV (As := [.int x1, .int x2, .int x4]) yf_X9_movesTwo ⟨by decide, by decide⟩ rfl rfl sR_0 rfl vl_X9_284 dX9_findMoved_93 rfl rfl (Nat.le_of_ble_eq_true rfl) (Nat.le_of_ble_eq_true rfl) (nE_mono (fun z8 τ6 h => ?_) h)
        obtain ⟨r7, rfl, h⟩ := h
        have j11 : nh_E kX9_findMoved 104 [some (.ref 0), some (.int x1), some (.int x2), some (.int x3), some (.int x4), some (.int x5), some (.int x6), none] [.int (if ¬ (r7 = 0) then 1 else 0)] τ6 Q := by
          refine nE_istore dX9_findMoved_104 rfl (by decide) ?_
          refine nE_aload_n dX9_findMoved_106 rfl rfl ?_
          refine nE_getC fl_X9_7 sR_0 rfl dX9_findMoved_107 ?_
          refine nE_iload dX9_findMoved_110 rfl ?_
          refine nE_iload dX9_findMoved_112 rfl ?_
          obtain ⟨g9, h⟩ := h
          refine nG_iast (j := x4.toNatClampNeg) sR_1 rfl dX9_findMoved_114 ⟨g9, ?_⟩
          refine nE_iload dX9_findMoved_115 rfl ?_
          refine nE_ifb_eq (tgt := 138) dX9_findMoved_117 (by decide) ⟨fun c10 => ?_, fun c10 => ?_⟩
          · have h := h.1 c10
            refine nE_iinc (v := x6 + 1) dX9_findMoved_138 rfl rfl (by decide) rfl ?_
            refine nE_goto (tgt := 44) dX9_findMoved_141 (by decide) ?_
            refine nE_weak 7 ?_
            exact h
          · have h := h.2 c10
            refine nE_aload_n dX9_findMoved_120 rfl rfl ?_
            refine nE_getC fl_X9_84 sR_0 rfl dX9_findMoved_121 ?_
            refine nE_iconst (v := 1) dX9_findMoved_124 (by decide) ?_
            refine nE_iload dX9_findMoved_125 rfl ?_
            refine nG_iast (j := 1) sR_24 (by decide) dX9_findMoved_127 ⟨(nh_vi (by decide)), ?_⟩
            refine nE_aload_n dX9_findMoved_128 rfl rfl ?_
            refine nE_getC fl_X9_84 sR_0 rfl dX9_findMoved_129 ?_
            refine nE_iconst (v := 2) dX9_findMoved_132 (by decide) ?_
            refine nE_iload dX9_findMoved_133 rfl ?_
            refine nG_iast (j := 2) sR_24 (by decide) dX9_findMoved_135 ⟨(nh_vi (by decide)), ?_⟩
            refine nE_iload_n dX9_findMoved_136 rfl rfl ?_
            exact nE_iret dX9_findMoved_137 rfl h
        refine nE_if_eq (tgt := 103) dX9_findMoved_96 (by decide) ⟨fun c12 => ?_, fun c12 => ?_⟩
        · skip
          have f13 : (r7 = 0) = True := eq_true c12
          refine nE_iconst (v := 0) dX9_findMoved_103 (by decide) ?_
          exact nh_topi (show ((if ¬ (r7 = 0) then 1 else 0) : Int32) = 0 from by simp only [if_true, if_false, not_true_eq_false, not_false_eq_true, true_and, and_true, false_and, and_false, true_or, or_true, false_or, or_false, if_pos, if_neg, ite_true, ite_false, f13]) j11
        · skip
          have f14 : (r7 = 0) = False := eq_false c12
          refine nE_iconst (v := 1) dX9_findMoved_99 (by decide) ?_
          refine nE_goto (tgt := 104) dX9_findMoved_100 (by decide) ?_
          exact nh_topi (show ((if ¬ (r7 = 0) then 1 else 0) : Int32) = 1 from by simp only [if_true, if_false, not_true_eq_false, not_false_eq_true, true_and, and_true, false_and, and_false, true_or, or_true, false_or, or_false, if_pos, if_neg, ite_true, ite_false, f14]) j11
      · have h := h.2 c5
        refine nE_aload_n dX9_findMoved_76 rfl rfl ?_
        refine nE_iload_n dX9_findMoved_77 rfl rfl ?_
        refine nE_iload_n dX9_findMoved_78 rfl rfl ?_
        refine nE_callV (As := [.int x1, .int x2]) yf_X9_holds ⟨by decide, by decide⟩ rfl rfl sR_0 rfl vl_X9_281 dX9_findMoved_79 rfl rfl (Nat.le_of_ble_eq_true rfl) (Nat.le_of_ble_eq_true rfl) (nE_mono (fun z17 τ15 h => ?_) h)
        obtain ⟨r16, rfl, h⟩ := h
        have j20 : nh_E kX9_findMoved 104 [some (.ref 0), some (.int x1), some (.int x2), some (.int x3), some (.int x4), some (.int x5), some (.int x6), none] [.int (if ¬ (r16 = 0) then 1 else 0)] τ15 Q := by
          refine nE_istore dX9_findMoved_104 rfl (by decide) ?_
          refine nE_aload_n dX9_findMoved_106 rfl rfl ?_
          refine nE_getC fl_X9_7 sR_0 rfl dX9_findMoved_107 ?_
          refine nE_iload dX9_findMoved_110 rfl ?_
          refine nE_iload dX9_findMoved_112 rfl ?_
          obtain ⟨g18, h⟩ := h
          refine nG_iast (j := x4.toNatClampNeg) sR_1 rfl dX9_findMoved_114 ⟨g18, ?_⟩
          refine nE_iload dX9_findMoved_115 rfl ?_
          refine nE_ifb_eq (tgt := 138) dX9_findMoved_117 (by decide) ⟨fun c19 => ?_, fun c19 => ?_⟩
          · have h := h.1 c19
            refine nE_iinc (v := x6 + 1) dX9_findMoved_138 rfl rfl (by decide) rfl ?_
            refine nE_goto (tgt := 44) dX9_findMoved_141 (by decide) ?_
            refine nE_weak 7 ?_
            exact h
          · have h := h.2 c19
            refine nE_aload_n dX9_findMoved_120 rfl rfl ?_
            refine nE_getC fl_X9_84 sR_0 rfl dX9_findMoved_121 ?_
            refine nE_iconst (v := 1) dX9_findMoved_124 (by decide) ?_
            refine nE_iload dX9_findMoved_125 rfl ?_
            refine nG_iast (j := 1) sR_24 (by decide) dX9_findMoved_127 ⟨(nh_vi (by decide)), ?_⟩
            refine nE_aload_n dX9_findMoved_128 rfl rfl ?_
            refine nE_getC fl_X9_84 sR_0 rfl dX9_findMoved_129 ?_
            refine nE_iconst (v := 2) dX9_findMoved_132 (by decide) ?_
            refine nE_iload dX9_findMoved_133 rfl ?_
            refine nG_iast (j := 2) sR_24 (by decide) dX9_findMoved_135 ⟨(nh_vi (by decide)), ?_⟩
            refine nE_iload_n dX9_findMoved_136 rfl rfl ?_
            exact nE_iret dX9_findMoved_137 rfl h
        refine nE_if_eq (tgt := 103) dX9_findMoved_82 (by decide) ⟨fun c21 => ?_, fun c21 => ?_⟩
        · skip
          have f22 : (r16 = 0) = True := eq_true c21
          refine nE_iconst (v := 0) dX9_findMoved_103 (by decide) ?_
          exact nh_topi (show ((if ¬ (r16 = 0) then 1 else 0) : Int32) = 0 from by simp only [if_true, if_false, not_true_eq_false, not_false_eq_true, true_and, and_true, false_and, and_false, true_or, or_true, false_or, or_false, if_pos, if_neg, ite_true, ite_false, f22]) j20
        · skip
          have f23 : (r16 = 0) = False := eq_false c21
          refine nE_goto (tgt := 99) dX9_findMoved_85 (by decide) ?_
          refine nE_iconst (v := 1) dX9_findMoved_99 (by decide) ?_
          refine nE_goto (tgt := 104) dX9_findMoved_100 (by decide) ?_
          exact nh_topi (show ((if ¬ (r16 = 0) then 1 else 0) : Int32) = 1 from by simp only [if_true, if_false, not_true_eq_false, not_false_eq_true, true_and, and_true, false_and, and_false, true_or, or_true, false_or, or_false, if_pos, if_neg, ite_true, ite_false, f23]) j20
set_option maxRecDepth 20000 in
theorem sg_X9_kept_0 (x1 : Int32) (x2 : Int32) (x3 : Int32) {σ : nh_S} {Q : Option Value → nh_S → Prop} (h : (¬ (x1 < 0) ∧ ¬ ((σ.2.1 9 0) - 1 < x1) → ((¬ (¬ (x2 < 0) ∧ ¬ (999 < x2)) → (Q (some (.int (-1000002))) σ)) ∧ (¬ (x2 < 0) ∧ ¬ (999 < x2) → ((¬ (x3 < 0) ∧ ¬ (4 < x3) → (nh_E kX9_findMoved 0 [some (.ref 0), some (.int x1), some (.int x2), none, none, none, none, none] [] σ (nh_qi fun r5 τ4 => ((¬ (x3 = 0) → (¬ (2 * r5 < x3) → (vp_in x3 5)))) ∧ Q (some (.int (if x3 = 0 then r5 else (if 2 * r5 < x3 then (-1) else τ4.2.1 24 x3.toNatClampNeg)))) τ4))) ∧ (¬ (¬ (x3 < 0) ∧ ¬ (4 < x3)) → (Q (some (.int (-1000002))) σ)))))) ∧ (¬ (¬ (x1 < 0) ∧ ¬ ((σ.2.1 9 0) - 1 < x1)) → (Q (some (.int (-1000001))) σ))) : nh_E kX9_kept 0 [some (.ref 0), some (.int x1), some (.int x2), some (.int x3), none] [] σ Q := by
  refine nE_aload_n dX9_kept_0 rfl rfl ?_
  refine nE_iload_n dX9_kept_1 rfl rfl ?_
  refine nE_callV (As := [.int x1]) yf_X9_isHouse ⟨by decide, by decide⟩ rfl rfl sR_0 rfl vl_X9_193 dX9_kept_2 rfl rfl (Nat.le_of_ble_eq_true rfl) (Nat.le_of_ble_eq_true rfl) (p_X9_isHouse _ ?_)
  refine nE_ifb_ne (tgt := 11) dX9_kept_5 (by decide) ⟨fun c1 => ?_, fun c1 => ?_⟩
  · have h := h.1 c1
    refine nE_iload_n dX9_kept_11 rfl rfl ?_
    refine nE_i2l dX9_kept_12 ?_
    refine nE_lconst (v := 0) dX9_kept_13 (by decide) ?_
    refine nE_ldc2 kc_X9_287 dX9_kept_14 ?_
    refine nE_callS (As := [.long x2.toInt64, .long 0, .long 999]) yf_X9_in ⟨by decide, by decide⟩ rfl sl_X9_95 dX9_kept_17 rfl rfl (Nat.le_of_ble_eq_true rfl) (Nat.le_of_ble_eq_true rfl) (p_X9_in x2 0 999 (by decide) (by decide) ?_)
    refine nE_ifb_eq (tgt := 35) dX9_kept_20 (by decide) ⟨fun c2 => ?_, fun c2 => ?_⟩
    · have h := h.1 c2
      refine nE_ldc kc_X9_99 dX9_kept_35 ?_
      exact nE_iret dX9_kept_37 rfl h
    · have h := h.2 c2
      refine nE_iload_n dX9_kept_23 rfl rfl ?_
      refine nE_i2l dX9_kept_24 ?_
      refine nE_lconst (v := 0) dX9_kept_25 (by decide) ?_
      refine nE_ldc2 kc_X9_289 dX9_kept_26 ?_
      refine nE_callS (As := [.long x3.toInt64, .long 0, .long 4]) yf_X9_in ⟨by decide, by decide⟩ rfl sl_X9_95 dX9_kept_29 rfl rfl (Nat.le_of_ble_eq_true rfl) (Nat.le_of_ble_eq_true rfl) (p_X9_in x3 0 4 (by decide) (by decide) ?_)
      refine nE_ifb_ne (tgt := 38) dX9_kept_32 (by decide) ⟨fun c3 => ?_, fun c3 => ?_⟩
      · have h := h.1 c3
        refine nE_aload_n dX9_kept_38 rfl rfl ?_
        refine nE_iload_n dX9_kept_39 rfl rfl ?_
        refine nE_iload_n dX9_kept_40 rfl rfl ?_
        refine nE_callV (As := [.int x1, .int x2]) yf_X9_findMoved ⟨by decide, by decide⟩ rfl rfl sR_0 rfl vl_X9_291 dX9_kept_41 rfl rfl (Nat.le_of_ble_eq_true rfl) (Nat.le_of_ble_eq_true rfl) (nE_mono (fun z6 τ4 h => ?_) h)
        obtain ⟨r5, rfl, h⟩ := h
        refine nE_istore dX9_kept_44 rfl (by decide) ?_
        refine nE_iload_n dX9_kept_46 rfl rfl ?_
        obtain ⟨u8, h⟩ := h
        have j9 : nh_E kX9_kept 73 [some (.ref 0), some (.int x1), some (.int x2), some (.int x3), some (.int r5)] [.int (if x3 = 0 then r5 else (if 2 * r5 < x3 then (-1) else τ4.2.1 24 x3.toNatClampNeg))] τ4 Q := by
          exact nE_iret dX9_kept_73 rfl h
        have u10 := u8
        refine nE_if_ne (tgt := 55) dX9_kept_47 (by decide) ⟨fun c11 => ?_, fun c11 => ?_⟩
        · skip
          have f12 : (x3 = 0) = False := eq_false c11
          have u13 := (u10 c11)
          refine nE_iload_n dX9_kept_55 rfl rfl ?_
          refine nE_iconst (v := 2) dX9_kept_56 (by decide) ?_
          refine nE_iload dX9_kept_57 rfl ?_
          refine nE_imul dX9_kept_59 ?_
          refine nE_icmp_gt (tgt := 72) dX9_kept_60 (by decide) ⟨fun c14 => ?_, fun c14 => ?_⟩
          · skip
            have f15 : (2 * r5 < x3) = True := eq_true c14
            refine nE_iconst (v := (-1)) dX9_kept_72 (by decide) ?_
            exact nh_topi (show ((if x3 = 0 then r5 else (if 2 * r5 < x3 then (-1) else τ4.2.1 24 x3.toNatClampNeg)) : Int32) = (-1) from by simp only [if_true, if_false, not_true_eq_false, not_false_eq_true, true_and, and_true, false_and, and_false, true_or, or_true, false_or, or_false, if_pos, if_neg, ite_true, ite_false, f12, f15]) j9
          · skip
            have f16 : (2 * r5 < x3) = False := eq_false c14
            have g7 := (u13 c14)
            refine nE_aload_n dX9_kept_63 rfl rfl ?_
            refine nE_getC fl_X9_84 sR_0 rfl dX9_kept_64 ?_
            refine nE_iload_n dX9_kept_67 rfl rfl ?_
            refine nG_iald (j := x3.toNatClampNeg) sR_24 rfl dX9_kept_68 ⟨g7, ?_⟩
            refine nE_goto (tgt := 73) dX9_kept_69 (by decide) ?_
            exact nh_topi (show ((if x3 = 0 then r5 else (if 2 * r5 < x3 then (-1) else τ4.2.1 24 x3.toNatClampNeg)) : Int32) = τ4.2.1 24 x3.toNatClampNeg from by simp only [if_true, if_false, not_true_eq_false, not_false_eq_true, true_and, and_true, false_and, and_false, true_or, or_true, false_or, or_false, if_pos, if_neg, ite_true, ite_false, f12, f16]) j9
        · skip
          have f17 : (x3 = 0) = True := eq_true c11
          refine nE_iload dX9_kept_50 rfl ?_
          refine nE_goto (tgt := 73) dX9_kept_52 (by decide) ?_
          exact nh_topi (show ((if x3 = 0 then r5 else (if 2 * r5 < x3 then (-1) else τ4.2.1 24 x3.toNatClampNeg)) : Int32) = r5 from by simp only [if_true, if_false, not_true_eq_false, not_false_eq_true, true_and, and_true, false_and, and_false, true_or, or_true, false_or, or_false, if_pos, if_neg, ite_true, ite_false, f17]) j9
      · have h := h.2 c3
        refine nE_ldc kc_X9_99 dX9_kept_35 ?_
        exact nE_iret dX9_kept_37 rfl h
  · have h := h.2 c1
    refine nE_ldc kc_X9_197 dX9_kept_8 ?_
    exact nE_iret dX9_kept_10 rfl h
set_option maxRecDepth 20000 in
theorem sg_X9_canBeIn_0 (x1 : Int32) {σ : nh_S} {Q : Option Value → nh_S → Prop} (h : nh_E kX9_canBeIn 4 [some (.ref 0), some (.int x1), some (.int 0), some (.int 0)] [] σ Q) : nh_E kX9_canBeIn 0 [some (.ref 0), some (.int x1), none, none] [] σ Q := by
  refine nE_iconst (v := 0) dX9_canBeIn_0 (by decide) ?_
  refine nE_istore_n dX9_canBeIn_1 rfl rfl (by decide) ?_
  refine nE_iconst (v := 0) dX9_canBeIn_2 (by decide) ?_
  refine nE_istore_n dX9_canBeIn_3 rfl rfl (by decide) ?_
  exact h
set_option maxRecDepth 20000 in
theorem sg_X9_canBeIn_4 (x1 : Int32) (x2 : Int32) (x3 : Int32) {σ : nh_S} {Q : Option Value → nh_S → Prop} (h : (σ.2.1 9 1 ≤ x3 → (Q (some (.int x2)) σ)) ∧ (¬ (σ.2.1 9 1 ≤ x3) → ((((nh_hs x1 x3) → (vp_in x3 24))) ∧ nh_E kX9_canBeIn 4 [some (.ref 0), some (.int x1), some (.int (x2 ||| ((if (nh_hs x1 x3) ∧ ((σ.2.1 8 x3.toNatClampNeg) &&& (x2 ^^^ (-1)) = 0) then 1 else 0) <<< (x3 &&& 31)))), some (.int (x3 + 1))] [] σ Q))) : nh_E kX9_canBeIn 4 [some (.ref 0), some (.int x1), some (.int x2), some (.int x3)] [] σ Q := by
  refine nE_iload_n dX9_canBeIn_4 rfl rfl ?_
  refine nE_aload_n dX9_canBeIn_5 rfl rfl ?_
  refine nE_getC fl_X9_35 sR_0 rfl dX9_canBeIn_6 ?_
  refine nE_iconst (v := 1) dX9_canBeIn_9 (by decide) ?_
  refine nG_iald (j := 1) sR_9 (by decide) dX9_canBeIn_10 ⟨(nh_vi (by decide)), ?_⟩
  refine nE_icmp_ge (tgt := 54) dX9_canBeIn_11 (by decide) ⟨fun c1 => ?_, fun c1 => ?_⟩
  · have h := h.1 c1
    refine nE_iload_n dX9_canBeIn_54 rfl rfl ?_
    exact nE_iret dX9_canBeIn_55 rfl h
  · have h := h.2 c1
    refine nE_iload_n dX9_canBeIn_14 rfl rfl ?_
    refine nE_iload_n dX9_canBeIn_15 rfl rfl ?_
    refine nE_iload_n dX9_canBeIn_16 rfl rfl ?_
    refine nE_callS (As := [.int x1, .int x3]) yf_X9_has ⟨by decide, by decide⟩ rfl sl_X9_146 dX9_canBeIn_17 rfl rfl (Nat.le_of_ble_eq_true rfl) (Nat.le_of_ble_eq_true rfl) (p_X9_has _ _ ?_)
    obtain ⟨u3, h⟩ := h
    have j4 : nh_E kX9_canBeIn 41 [some (.ref 0), some (.int x1), some (.int x2), some (.int x3)] [.int (if (nh_hs x1 x3) ∧ ((σ.2.1 8 x3.toNatClampNeg) &&& (x2 ^^^ (-1)) = 0) then 1 else 0), .int x2] σ Q := by
      refine nE_callS (As := [.int (if (nh_hs x1 x3) ∧ ((σ.2.1 8 x3.toNatClampNeg) &&& (x2 ^^^ (-1)) = 0) then 1 else 0)]) yf_X9_one ⟨by decide, by decide⟩ rfl sl_X9_150 dX9_canBeIn_41 rfl rfl (Nat.le_of_ble_eq_true rfl) (Nat.le_of_ble_eq_true rfl) (p_X9_one _ ?_)
      refine nE_iload_n dX9_canBeIn_44 rfl rfl ?_
      refine nE_ishl dX9_canBeIn_45 ?_
      refine nE_ior dX9_canBeIn_46 ?_
      refine nE_istore_n dX9_canBeIn_47 rfl rfl (by decide) ?_
      refine nE_iinc (v := x3 + 1) dX9_canBeIn_48 rfl rfl (by decide) rfl ?_
      refine nE_goto (tgt := 4) dX9_canBeIn_51 (by decide) ?_
      exact h
    have u5 := u3
    refine nE_ifb_eq (tgt := 40) dX9_canBeIn_20 (by decide) ⟨fun c6 => ?_, fun c6 => ?_⟩
    · skip
      have f7 : (nh_hs x1 x3) = False := eq_false c6
      refine nE_iconst (v := 0) dX9_canBeIn_40 (by decide) ?_
      exact nh_topi (show ((if (nh_hs x1 x3) ∧ ((σ.2.1 8 x3.toNatClampNeg) &&& (x2 ^^^ (-1)) = 0) then 1 else 0) : Int32) = 0 from by simp only [if_true, if_false, not_true_eq_false, not_false_eq_true, true_and, and_true, false_and, and_false, true_or, or_true, false_or, or_false, if_pos, if_neg, ite_true, ite_false, f7]) j4
    · skip
      have f8 : (nh_hs x1 x3) = True := eq_true c6
      have g2 := (u5 c6)
      refine nE_aload_n dX9_canBeIn_23 rfl rfl ?_
      refine nE_getC fl_X9_32 sR_0 rfl dX9_canBeIn_24 ?_
      refine nE_iload_n dX9_canBeIn_27 rfl rfl ?_
      refine nG_iald (j := x3.toNatClampNeg) sR_8 rfl dX9_canBeIn_28 ⟨g2, ?_⟩
      refine nE_iload_n dX9_canBeIn_29 rfl rfl ?_
      refine nE_iconst (v := (-1)) dX9_canBeIn_30 (by decide) ?_
      refine nE_ixor dX9_canBeIn_31 ?_
      refine nE_iand dX9_canBeIn_32 ?_
      refine nE_if_ne (tgt := 40) dX9_canBeIn_33 (by decide) ⟨fun c9 => ?_, fun c9 => ?_⟩
      · skip
        have f10 : ((σ.2.1 8 x3.toNatClampNeg) &&& (x2 ^^^ (-1)) = 0) = False := eq_false c9
        refine nE_iconst (v := 0) dX9_canBeIn_40 (by decide) ?_
        exact nh_topi (show ((if (nh_hs x1 x3) ∧ ((σ.2.1 8 x3.toNatClampNeg) &&& (x2 ^^^ (-1)) = 0) then 1 else 0) : Int32) = 0 from by simp only [if_true, if_false, not_true_eq_false, not_false_eq_true, true_and, and_true, false_and, and_false, true_or, or_true, false_or, or_false, if_pos, if_neg, ite_true, ite_false, f8, f10]) j4
      · skip
        have f11 : ((σ.2.1 8 x3.toNatClampNeg) &&& (x2 ^^^ (-1)) = 0) = True := eq_true c9
        refine nE_iconst (v := 1) dX9_canBeIn_36 (by decide) ?_
        refine nE_goto (tgt := 41) dX9_canBeIn_37 (by decide) ?_
        exact nh_topi (show ((if (nh_hs x1 x3) ∧ ((σ.2.1 8 x3.toNatClampNeg) &&& (x2 ^^^ (-1)) = 0) then 1 else 0) : Int32) = 1 from by simp only [if_true, if_false, not_true_eq_false, not_false_eq_true, true_and, and_true, false_and, and_false, true_or, or_true, false_or, or_false, if_pos, if_neg, ite_true, ite_false, f8, f11]) j4
set_option maxRecDepth 20000 in
theorem sg_X9_reachOf_0 (x1 : Int32) {σ : nh_S} {Q : Option Value → nh_S → Prop} (h : nh_E kX9_canBeIn 0 [some (.ref 0), some (.int x1), none, none] [] σ (nh_qi fun r2 τ1 => nh_E kX9_reachOf 11 [some (.ref 0), none, some (.int r2), some (.int 0), some (.int 0)] [] τ1 Q)) : nh_E kX9_reachOf 0 [some (.ref 0), some (.int x1), none, none, none] [] σ Q := by
  refine nE_aload_n dX9_reachOf_0 rfl rfl ?_
  refine nE_iload_n dX9_reachOf_1 rfl rfl ?_
  refine nE_callV (As := [.int x1]) yf_X9_canBeIn ⟨by decide, by decide⟩ rfl rfl sR_0 rfl vl_X9_294 dX9_reachOf_2 rfl rfl (Nat.le_of_ble_eq_true rfl) (Nat.le_of_ble_eq_true rfl) (nE_mono (fun z3 τ1 h => ?_) h)
  obtain ⟨r2, rfl, h⟩ := h
  refine nE_istore_n dX9_reachOf_5 rfl rfl (by decide) ?_
  refine nE_iconst (v := 0) dX9_reachOf_6 (by decide) ?_
  refine nE_istore_n dX9_reachOf_7 rfl rfl (by decide) ?_
  refine nE_iconst (v := 0) dX9_reachOf_8 (by decide) ?_
  refine nE_istore dX9_reachOf_9 rfl (by decide) ?_
  refine nE_weak 1 ?_
  exact h
set_option maxRecDepth 20000 in
theorem sg_X9_reachOf_11 (x2 : Int32) (x3 : Int32) (x4 : Int32) {σ : nh_S} {Q : Option Value → nh_S → Prop} (h : (σ.2.1 9 1 ≤ x4 → (Q (some (.int x3)) σ)) ∧ (¬ (σ.2.1 9 1 ≤ x4) → ((((nh_hs x2 x4) → (vp_in x4 24))) ∧ nh_E kX9_reachOf 11 [some (.ref 0), none, some (.int x2), some (.int (x3 + (if nh_hs x2 x4 then σ.2.1 7 x4.toNatClampNeg else 0))), some (.int (x4 + 1))] [] σ Q))) : nh_E kX9_reachOf 11 [some (.ref 0), none, some (.int x2), some (.int x3), some (.int x4)] [] σ Q := by
  refine nE_iload dX9_reachOf_11 rfl ?_
  refine nE_aload_n dX9_reachOf_13 rfl rfl ?_
  refine nE_getC fl_X9_35 sR_0 rfl dX9_reachOf_14 ?_
  refine nE_iconst (v := 1) dX9_reachOf_17 (by decide) ?_
  refine nG_iald (j := 1) sR_9 (by decide) dX9_reachOf_18 ⟨(nh_vi (by decide)), ?_⟩
  refine nE_icmp_ge (tgt := 51) dX9_reachOf_19 (by decide) ⟨fun c1 => ?_, fun c1 => ?_⟩
  · have h := h.1 c1
    refine nE_iload_n dX9_reachOf_51 rfl rfl ?_
    exact nE_iret dX9_reachOf_52 rfl h
  · have h := h.2 c1
    refine nE_iload_n dX9_reachOf_22 rfl rfl ?_
    refine nE_iload_n dX9_reachOf_23 rfl rfl ?_
    refine nE_iload dX9_reachOf_24 rfl ?_
    refine nE_callS (As := [.int x2, .int x4]) yf_X9_has ⟨by decide, by decide⟩ rfl sl_X9_146 dX9_reachOf_26 rfl rfl (Nat.le_of_ble_eq_true rfl) (Nat.le_of_ble_eq_true rfl) (p_X9_has _ _ ?_)
    obtain ⟨u3, h⟩ := h
    have j4 : nh_E kX9_reachOf 43 [some (.ref 0), none, some (.int x2), some (.int x3), some (.int x4)] [.int (if nh_hs x2 x4 then σ.2.1 7 x4.toNatClampNeg else 0), .int x3] σ Q := by
      refine nE_iadd dX9_reachOf_43 ?_
      refine nE_istore_n dX9_reachOf_44 rfl rfl (by decide) ?_
      refine nE_iinc (v := x4 + 1) dX9_reachOf_45 rfl rfl (by decide) rfl ?_
      refine nE_goto (tgt := 11) dX9_reachOf_48 (by decide) ?_
      exact h
    have u5 := u3
    refine nE_ifb_eq (tgt := 42) dX9_reachOf_29 (by decide) ⟨fun c6 => ?_, fun c6 => ?_⟩
    · skip
      have f7 : (nh_hs x2 x4) = False := eq_false c6
      refine nE_iconst (v := 0) dX9_reachOf_42 (by decide) ?_
      exact nh_topi (show ((if nh_hs x2 x4 then σ.2.1 7 x4.toNatClampNeg else 0) : Int32) = 0 from by simp only [if_true, if_false, not_true_eq_false, not_false_eq_true, true_and, and_true, false_and, and_false, true_or, or_true, false_or, or_false, if_pos, if_neg, ite_true, ite_false, f7]) j4
    · skip
      have f8 : (nh_hs x2 x4) = True := eq_true c6
      have g2 := (u5 c6)
      refine nE_aload_n dX9_reachOf_32 rfl rfl ?_
      refine nE_getC fl_X9_29 sR_0 rfl dX9_reachOf_33 ?_
      refine nE_iload dX9_reachOf_36 rfl ?_
      refine nG_iald (j := x4.toNatClampNeg) sR_7 rfl dX9_reachOf_38 ⟨g2, ?_⟩
      refine nE_goto (tgt := 43) dX9_reachOf_39 (by decide) ?_
      exact nh_topi (show ((if nh_hs x2 x4 then σ.2.1 7 x4.toNatClampNeg else 0) : Int32) = σ.2.1 7 x4.toNatClampNeg from by simp only [if_true, if_false, not_true_eq_false, not_false_eq_true, true_and, and_true, false_and, and_false, true_or, or_true, false_or, or_false, if_pos, if_neg, ite_true, ite_false, f8]) j4
set_option maxRecDepth 20000 in
theorem sg_X9_reach_0 (x1 : Int32) {σ : nh_S} {Q : Option Value → nh_S → Prop} (h : (¬ (¬ (x1 < 0) ∧ ¬ ((1 <<< ((σ.2.1 9 1) &&& 31)) - 1 < x1)) → (Q (some (.int (-1000001))) σ)) ∧ (¬ (x1 < 0) ∧ ¬ ((1 <<< ((σ.2.1 9 1) &&& 31)) - 1 < x1) → (nh_E kX9_reachOf 0 [some (.ref 0), some (.int x1), none, none, none] [] σ (nh_qi fun r3 τ2 => Q (some (.int r3)) τ2)))) : nh_E kX9_reach 0 [some (.ref 0), some (.int x1)] [] σ Q := by
  refine nE_aload_n dX9_reach_0 rfl rfl ?_
  refine nE_iload_n dX9_reach_1 rfl rfl ?_
  refine nE_callV (As := [.int x1]) yf_X9_isParts ⟨by decide, by decide⟩ rfl rfl sR_0 rfl vl_X9_297 dX9_reach_2 rfl rfl (Nat.le_of_ble_eq_true rfl) (Nat.le_of_ble_eq_true rfl) (p_X9_isParts _ ?_)
  refine nE_ifb_eq (tgt := 16) dX9_reach_5 (by decide) ⟨fun c1 => ?_, fun c1 => ?_⟩
  · have h := h.1 c1
    refine nE_ldc kc_X9_197 dX9_reach_16 ?_
    exact nE_iret dX9_reach_18 rfl h
  · have h := h.2 c1
    refine nE_aload_n dX9_reach_8 rfl rfl ?_
    refine nE_iload_n dX9_reach_9 rfl rfl ?_
    refine nE_callV (As := [.int x1]) yf_X9_reachOf ⟨by decide, by decide⟩ rfl rfl sR_0 rfl vl_X9_300 dX9_reach_10 rfl rfl (Nat.le_of_ble_eq_true rfl) (Nat.le_of_ble_eq_true rfl) (nE_mono (fun z4 τ2 h => ?_) h)
    obtain ⟨r3, rfl, h⟩ := h
    refine nE_goto (tgt := 18) dX9_reach_13 (by decide) ?_
    exact nE_iret dX9_reach_18 rfl h
set_option maxRecDepth 20000 in
theorem sg_X9_needed_0 (x1 : Int32) {σ : nh_S} {Q : Option Value → nh_S → Prop} (h : (¬ (x1 < 0) ∧ ¬ (9999 < x1) → (nh_E kX9_needed 19 [some (.ref 0), some (.int x1), some (.int (-1)), some (.int 0)] [] σ Q)) ∧ (¬ (¬ (x1 < 0) ∧ ¬ (9999 < x1)) → (Q (some (.int (-1000002))) σ))) : nh_E kX9_needed 0 [some (.ref 0), some (.int x1), none, none] [] σ Q := by
  refine nE_iload_n dX9_needed_0 rfl rfl ?_
  refine nE_i2l dX9_needed_1 ?_
  refine nE_lconst (v := 0) dX9_needed_2 (by decide) ?_
  refine nE_ldc2 kc_X9_303 dX9_needed_3 ?_
  refine nE_callS (As := [.long x1.toInt64, .long 0, .long 9999]) yf_X9_in ⟨by decide, by decide⟩ rfl sl_X9_95 dX9_needed_6 rfl rfl (Nat.le_of_ble_eq_true rfl) (Nat.le_of_ble_eq_true rfl) (p_X9_in x1 0 9999 (by decide) (by decide) ?_)
  refine nE_ifb_ne (tgt := 15) dX9_needed_9 (by decide) ⟨fun c1 => ?_, fun c1 => ?_⟩
  · have h := h.1 c1
    refine nE_iconst (v := (-1)) dX9_needed_15 (by decide) ?_
    refine nE_istore_n dX9_needed_16 rfl rfl (by decide) ?_
    refine nE_iconst (v := 0) dX9_needed_17 (by decide) ?_
    refine nE_istore_n dX9_needed_18 rfl rfl (by decide) ?_
    exact h
  · have h := h.2 c1
    refine nE_ldc kc_X9_99 dX9_needed_12 ?_
    exact nE_iret dX9_needed_14 rfl h
set_option maxRecDepth 20000 in
theorem sg_X9_needed_19 (x1 : Int32) (x2 : Int32) (x3 : Int32) {σ : nh_S} {Q : Option Value → nh_S → Prop} (h : ((1 <<< ((σ.2.1 9 1) &&& 31)) - 1 < x3 → (Q (some (.int x2)) σ)) ∧ (¬ ((1 <<< ((σ.2.1 9 1) &&& 31)) - 1 < x3) → ((x2 < 0 → (nh_E kX9_reachOf 0 [some (.ref 0), some (.int x3), none, none, none] [] σ (nh_qi fun r4 τ3 => nh_E kX9_needed 19 [some (.ref 0), some (.int x1), some (.int (if r4 < x1 then x2 else x3)), some (.int (x3 + 1))] [] τ3 Q))) ∧ (¬ (x2 < 0) → (nh_E kX9_ones 0 [some (.int x3), none, none] [] σ (nh_qi fun r11 τ10 => nh_E kX9_ones 0 [some (.int x2), none, none] [] τ10 (nh_qi fun r14 τ13 => (r14 ≤ r11 → (nh_E kX9_needed 19 [some (.ref 0), some (.int x1), some (.int x2), some (.int (x3 + 1))] [] τ13 Q)) ∧ (¬ (r14 ≤ r11) → (nh_E kX9_reachOf 0 [some (.ref 0), some (.int x3), none, none, none] [] τ13 (nh_qi fun r18 τ17 => nh_E kX9_needed 19 [some (.ref 0), some (.int x1), some (.int (if r18 < x1 then x2 else x3)), some (.int (x3 + 1))] [] τ17 Q)))))))))) : nh_E kX9_needed 19 [some (.ref 0), some (.int x1), some (.int x2), some (.int x3)] [] σ Q := by
  refine nE_iload_n dX9_needed_19 rfl rfl ?_
  refine nE_aload_n dX9_needed_20 rfl rfl ?_
  refine nE_callV (As := []) yf_X9_allParts ⟨by decide, by decide⟩ rfl rfl sR_0 rfl vl_X9_236 dX9_needed_21 rfl rfl (Nat.le_of_ble_eq_true rfl) (Nat.le_of_ble_eq_true rfl) (p_X9_allParts ?_)
  refine nE_icmp_gt (tgt := 63) dX9_needed_24 (by decide) ⟨fun c1 => ?_, fun c1 => ?_⟩
  · have h := h.1 c1
    refine nE_iload_n dX9_needed_63 rfl rfl ?_
    exact nE_iret dX9_needed_64 rfl h
  · have h := h.2 c1
    refine nE_iload_n dX9_needed_27 rfl rfl ?_
    refine nE_if_lt (tgt := 42) dX9_needed_28 (by decide) ⟨fun c2 => ?_, fun c2 => ?_⟩
    · have h := h.1 c2
      refine nE_aload_n dX9_needed_42 rfl rfl ?_
      refine nE_iload_n dX9_needed_43 rfl rfl ?_
      refine nE_callV (As := [.int x3]) yf_X9_reachOf ⟨by decide, by decide⟩ rfl rfl sR_0 rfl vl_X9_300 dX9_needed_44 rfl rfl (Nat.le_of_ble_eq_true rfl) (Nat.le_of_ble_eq_true rfl) (nE_mono (fun z5 τ3 h => ?_) h)
      obtain ⟨r4, rfl, h⟩ := h
      refine nE_iload_n dX9_needed_47 rfl rfl ?_
      have j6 : nh_E kX9_needed 56 [some (.ref 0), some (.int x1), some (.int x2), some (.int x3)] [.int (if r4 < x1 then x2 else x3)] τ3 Q := by
        refine nE_istore_n dX9_needed_56 rfl rfl (by decide) ?_
        refine nE_iinc (v := x3 + 1) dX9_needed_57 rfl rfl (by decide) rfl ?_
        refine nE_goto (tgt := 19) dX9_needed_60 (by decide) ?_
        exact h
      refine nE_icmp_lt (tgt := 55) dX9_needed_48 (by decide) ⟨fun c7 => ?_, fun c7 => ?_⟩
      · skip
        have f8 : (r4 < x1) = True := eq_true c7
        refine nE_iload_n dX9_needed_55 rfl rfl ?_
        exact nh_topi (show ((if r4 < x1 then x2 else x3) : Int32) = x2 from by simp only [if_true, if_false, not_true_eq_false, not_false_eq_true, true_and, and_true, false_and, and_false, true_or, or_true, false_or, or_false, if_pos, if_neg, ite_true, ite_false, f8]) j6
      · skip
        have f9 : (r4 < x1) = False := eq_false c7
        refine nE_iload_n dX9_needed_51 rfl rfl ?_
        refine nE_goto (tgt := 56) dX9_needed_52 (by decide) ?_
        exact nh_topi (show ((if r4 < x1 then x2 else x3) : Int32) = x3 from by simp only [if_true, if_false, not_true_eq_false, not_false_eq_true, true_and, and_true, false_and, and_false, true_or, or_true, false_or, or_false, if_pos, if_neg, ite_true, ite_false, f9]) j6
    · have h := h.2 c2
      refine nE_iload_n dX9_needed_31 rfl rfl ?_
      refine nE_callS (As := [.int x3]) yf_X9_ones ⟨by decide, by decide⟩ rfl sl_X9_189 dX9_needed_32 rfl rfl (Nat.le_of_ble_eq_true rfl) (Nat.le_of_ble_eq_true rfl) (nE_mono (fun z12 τ10 h => ?_) h)
      obtain ⟨r11, rfl, h⟩ := h
      refine nE_iload_n dX9_needed_35 rfl rfl ?_
      refine nE_callS (As := [.int x2]) yf_X9_ones ⟨by decide, by decide⟩ rfl sl_X9_189 dX9_needed_36 rfl rfl (Nat.le_of_ble_eq_true rfl) (Nat.le_of_ble_eq_true rfl) (nE_mono (fun z15 τ13 h => ?_) h)
      obtain ⟨r14, rfl, h⟩ := h
      refine nE_icmp_ge (tgt := 55) dX9_needed_39 (by decide) ⟨fun c16 => ?_, fun c16 => ?_⟩
      · have h := h.1 c16
        refine nE_iload_n dX9_needed_55 rfl rfl ?_
        refine nE_istore_n dX9_needed_56 rfl rfl (by decide) ?_
        refine nE_iinc (v := x3 + 1) dX9_needed_57 rfl rfl (by decide) rfl ?_
        refine nE_goto (tgt := 19) dX9_needed_60 (by decide) ?_
        exact h
      · have h := h.2 c16
        refine nE_aload_n dX9_needed_42 rfl rfl ?_
        refine nE_iload_n dX9_needed_43 rfl rfl ?_
        refine nE_callV (As := [.int x3]) yf_X9_reachOf ⟨by decide, by decide⟩ rfl rfl sR_0 rfl vl_X9_300 dX9_needed_44 rfl rfl (Nat.le_of_ble_eq_true rfl) (Nat.le_of_ble_eq_true rfl) (nE_mono (fun z19 τ17 h => ?_) h)
        obtain ⟨r18, rfl, h⟩ := h
        refine nE_iload_n dX9_needed_47 rfl rfl ?_
        have j20 : nh_E kX9_needed 56 [some (.ref 0), some (.int x1), some (.int x2), some (.int x3)] [.int (if r18 < x1 then x2 else x3)] τ17 Q := by
          refine nE_istore_n dX9_needed_56 rfl rfl (by decide) ?_
          refine nE_iinc (v := x3 + 1) dX9_needed_57 rfl rfl (by decide) rfl ?_
          refine nE_goto (tgt := 19) dX9_needed_60 (by decide) ?_
          exact h
        refine nE_icmp_lt (tgt := 55) dX9_needed_48 (by decide) ⟨fun c21 => ?_, fun c21 => ?_⟩
        · skip
          have f22 : (r18 < x1) = True := eq_true c21
          refine nE_iload_n dX9_needed_55 rfl rfl ?_
          exact nh_topi (show ((if r18 < x1 then x2 else x3) : Int32) = x2 from by simp only [if_true, if_false, not_true_eq_false, not_false_eq_true, true_and, and_true, false_and, and_false, true_or, or_true, false_or, or_false, if_pos, if_neg, ite_true, ite_false, f22]) j20
        · skip
          have f23 : (r18 < x1) = False := eq_false c21
          refine nE_iload_n dX9_needed_51 rfl rfl ?_
          refine nE_goto (tgt := 56) dX9_needed_52 (by decide) ?_
          exact nh_topi (show ((if r18 < x1 then x2 else x3) : Int32) = x3 from by simp only [if_true, if_false, not_true_eq_false, not_false_eq_true, true_and, and_true, false_and, and_false, true_or, or_true, false_or, or_false, if_pos, if_neg, ite_true, ite_false, f23]) j20
set_option maxRecDepth 20000 in
theorem sg_X9_fit_0 (x1 : Int32) (x2 : Int32) {σ : nh_S} {Q : Option Value → nh_S → Prop} (h : (¬ (¬ (x1 < 0) ∧ ¬ ((σ.2.1 9 1) - 1 < x1)) → (Q (some (.int (-1000001))) σ)) ∧ (¬ (x1 < 0) ∧ ¬ ((σ.2.1 9 1) - 1 < x1) → ((¬ (x2 < 0) ∧ ¬ ((1 <<< ((σ.2.1 9 1) &&& 31)) - 1 < x2) → ((vp_in (12 + x1) 78) ∧ Q (some (.int (σ.2.1 1 ((12 + x1).toNatClampNeg)))) (nh_wa σ 1 ((12 + x1).toNatClampNeg) (x2 ||| (1 <<< (x1 &&& 31)))))) ∧ (¬ (¬ (x2 < 0) ∧ ¬ ((1 <<< ((σ.2.1 9 1) &&& 31)) - 1 < x2)) → (Q (some (.int (-1000001))) σ))))) : nh_E kX9_fit 0 [some (.ref 0), some (.int x1), some (.int x2), none] [] σ Q := by
  refine nE_aload_n dX9_fit_0 rfl rfl ?_
  refine nE_iload_n dX9_fit_1 rfl rfl ?_
  refine nE_callV (As := [.int x1]) yf_X9_isPart ⟨by decide, by decide⟩ rfl rfl sR_0 rfl vl_X9_206 dX9_fit_2 rfl rfl (Nat.le_of_ble_eq_true rfl) (Nat.le_of_ble_eq_true rfl) (p_X9_isPart _ ?_)
  refine nE_ifb_eq (tgt := 16) dX9_fit_5 (by decide) ⟨fun c1 => ?_, fun c1 => ?_⟩
  · have h := h.1 c1
    refine nE_ldc kc_X9_197 dX9_fit_16 ?_
    exact nE_iret dX9_fit_18 rfl h
  · have h := h.2 c1
    refine nE_aload_n dX9_fit_8 rfl rfl ?_
    refine nE_iload_n dX9_fit_9 rfl rfl ?_
    refine nE_callV (As := [.int x2]) yf_X9_isParts ⟨by decide, by decide⟩ rfl rfl sR_0 rfl vl_X9_297 dX9_fit_10 rfl rfl (Nat.le_of_ble_eq_true rfl) (Nat.le_of_ble_eq_true rfl) (p_X9_isParts _ ?_)
    refine nE_ifb_ne (tgt := 19) dX9_fit_13 (by decide) ⟨fun c2 => ?_, fun c2 => ?_⟩
    · have h := h.1 c2
      refine nE_aload_n dX9_fit_19 rfl rfl ?_
      refine nE_getC fl_X9_7 sR_0 rfl dX9_fit_20 ?_
      refine nE_bipush (v := 12) dX9_fit_23 (by decide) ?_
      refine nE_iload_n dX9_fit_25 rfl rfl ?_
      refine nE_iadd dX9_fit_26 ?_
      obtain ⟨g3, h⟩ := h
      refine nG_iald (j := (12 + x1).toNatClampNeg) sR_1 rfl dX9_fit_27 ⟨g3, ?_⟩
      refine nE_istore_n dX9_fit_28 rfl rfl (by decide) ?_
      refine nE_aload_n dX9_fit_29 rfl rfl ?_
      refine nE_getC fl_X9_7 sR_0 rfl dX9_fit_30 ?_
      refine nE_bipush (v := 12) dX9_fit_33 (by decide) ?_
      refine nE_iload_n dX9_fit_35 rfl rfl ?_
      refine nE_iadd dX9_fit_36 ?_
      refine nE_iload_n dX9_fit_37 rfl rfl ?_
      refine nE_iconst (v := 1) dX9_fit_38 (by decide) ?_
      refine nE_iload_n dX9_fit_39 rfl rfl ?_
      refine nE_ishl dX9_fit_40 ?_
      refine nE_ior dX9_fit_41 ?_
      refine nG_iast (j := (12 + x1).toNatClampNeg) sR_1 rfl dX9_fit_42 ⟨g3, ?_⟩
      refine nE_iload_n dX9_fit_43 rfl rfl ?_
      exact nE_iret dX9_fit_44 rfl h
    · have h := h.2 c2
      refine nE_ldc kc_X9_197 dX9_fit_16 ?_
      exact nE_iret dX9_fit_18 rfl h
set_option maxRecDepth 20000 in
theorem sg_X9_laddersOf_0 (x1 : Int32) (x2 : Int32) {σ : nh_S} {Q : Option Value → nh_S → Prop} (h : nh_E kX9_laddersOf 2 [some (.ref 0), some (.int x1), some (.int x2), some (.int 0), none, none, none] [] σ Q) : nh_E kX9_laddersOf 0 [some (.ref 0), some (.int x1), some (.int x2), none, none, none, none] [] σ Q := by
  refine nE_iconst (v := 0) dX9_laddersOf_0 (by decide) ?_
  refine nE_istore_n dX9_laddersOf_1 rfl rfl (by decide) ?_
  exact h
set_option maxRecDepth 20000 in
theorem sg_X9_laddersOf_2 (x1 : Int32) (x2 : Int32) (x3 : Int32) {σ : nh_S} {Q : Option Value → nh_S → Prop} (h : ((1 <<< ((σ.2.1 9 1) &&& 31)) - 1 < x3 → (nh_E kX9_laddersOf 151 [some (.ref 0), none, some (.int x2), some (.int 0), some (.int 0), none, none] [] σ Q)) ∧ (¬ ((1 <<< ((σ.2.1 9 1) &&& 31)) - 1 < x3) → ((vp_in x3 4096) ∧ nh_E kX9_ones 0 [some (.int x3), none, none] [] (nh_wa σ 25 x3.toNatClampNeg (if x3 = 0 then 1 else 0)) (nh_qi fun r4 τ3 => nh_E kX9_laddersOf 39 [some (.ref 0), some (.int x1), some (.int x2), some (.int x3), some (.int (r4 - 1)), some (.int 0), none] [] τ3 Q)))) : nh_E kX9_laddersOf 2 [some (.ref 0), some (.int x1), some (.int x2), some (.int x3), none, none, none] [] σ Q := by
  refine nE_iload_n dX9_laddersOf_2 rfl rfl ?_
  refine nE_aload_n dX9_laddersOf_3 rfl rfl ?_
  refine nE_callV (As := []) yf_X9_allParts ⟨by decide, by decide⟩ rfl rfl sR_0 rfl vl_X9_236 dX9_laddersOf_4 rfl rfl (Nat.le_of_ble_eq_true rfl) (Nat.le_of_ble_eq_true rfl) (p_X9_allParts ?_)
  refine nE_icmp_gt (tgt := 146) dX9_laddersOf_7 (by decide) ⟨fun c1 => ?_, fun c1 => ?_⟩
  · have h := h.1 c1
    refine nE_iconst (v := 0) dX9_laddersOf_146 (by decide) ?_
    refine nE_istore_n dX9_laddersOf_147 rfl rfl (by decide) ?_
    refine nE_iconst (v := 0) dX9_laddersOf_148 (by decide) ?_
    refine nE_istore dX9_laddersOf_149 rfl (by decide) ?_
    refine nE_weak 1 ?_
    exact h
  · have h := h.2 c1
    refine nE_aload_n dX9_laddersOf_10 rfl rfl ?_
    refine nE_getC fl_X9_87 sR_0 rfl dX9_laddersOf_11 ?_
    refine nE_iload_n dX9_laddersOf_14 rfl rfl ?_
    refine nE_iload_n dX9_laddersOf_15 rfl rfl ?_
    have j6 : nh_E kX9_laddersOf 24 [some (.ref 0), some (.int x1), some (.int x2), some (.int x3), none, none, none] [.int (if x3 = 0 then 1 else 0), .int x3, .ref 25] σ Q := by
      refine nE_callS (As := [.int (if x3 = 0 then 1 else 0)]) yf_X9_one ⟨by decide, by decide⟩ rfl sl_X9_150 dX9_laddersOf_24 rfl rfl (Nat.le_of_ble_eq_true rfl) (Nat.le_of_ble_eq_true rfl) (p_X9_one _ ?_)
      obtain ⟨g2, h⟩ := h
      refine nG_iast (j := x3.toNatClampNeg) sR_25 rfl dX9_laddersOf_27 ⟨g2, ?_⟩
      refine nE_iload_n dX9_laddersOf_28 rfl rfl ?_
      refine nE_callS (As := [.int x3]) yf_X9_ones ⟨by decide, by decide⟩ rfl sl_X9_189 dX9_laddersOf_29 rfl rfl (Nat.le_of_ble_eq_true rfl) (Nat.le_of_ble_eq_true rfl) (nE_mono (fun z5 τ3 h => ?_) h)
      obtain ⟨r4, rfl, h⟩ := h
      refine nE_iconst (v := 1) dX9_laddersOf_32 (by decide) ?_
      refine nE_isub dX9_laddersOf_33 ?_
      refine nE_istore dX9_laddersOf_34 rfl (by decide) ?_
      refine nE_iconst (v := 0) dX9_laddersOf_36 (by decide) ?_
      refine nE_istore dX9_laddersOf_37 rfl (by decide) ?_
      exact h
    refine nE_if_ne (tgt := 23) dX9_laddersOf_16 (by decide) ⟨fun c7 => ?_, fun c7 => ?_⟩
    · skip
      have f8 : (x3 = 0) = False := eq_false c7
      refine nE_iconst (v := 0) dX9_laddersOf_23 (by decide) ?_
      exact nh_topi (show ((if x3 = 0 then 1 else 0) : Int32) = 0 from by simp only [if_true, if_false, not_true_eq_false, not_false_eq_true, true_and, and_true, false_and, and_false, true_or, or_true, false_or, or_false, if_pos, if_neg, ite_true, ite_false, f8]) j6
    · skip
      have f9 : (x3 = 0) = True := eq_true c7
      refine nE_iconst (v := 1) dX9_laddersOf_19 (by decide) ?_
      refine nE_goto (tgt := 24) dX9_laddersOf_20 (by decide) ?_
      exact nh_topi (show ((if x3 = 0 then 1 else 0) : Int32) = 1 from by simp only [if_true, if_false, not_true_eq_false, not_false_eq_true, true_and, and_true, false_and, and_false, true_or, or_true, false_or, or_false, if_pos, if_neg, ite_true, ite_false, f9]) j6
set_option maxRecDepth 20000 in
theorem sg_X9_laddersOf_39 (x1 : Int32) (x2 : Int32) (x3 : Int32) (x4 : Int32) (x5 : Int32) {σ : nh_S} {Q : Option Value → nh_S → Prop} (h : (σ.2.1 9 1 ≤ x5 → (nh_E kX9_laddersOf 2 [some (.ref 0), some (.int x1), some (.int x2), some (.int (x3 + 1)), none, none, none] [] σ Q)) ∧ (¬ (σ.2.1 9 1 ≤ x5) → ((x3 ≤ 0 → (nh_E kX9_laddersOf 2 [some (.ref 0), some (.int x1), some (.int x2), some (.int (x3 + 1)), none, none, none] [] σ Q)) ∧ (¬ (x3 ≤ 0) → ((((nh_hs x3 x5) → ((nh_hs x1 x5) → (¬ (x2 ≤ x4) → (vp_in (12 + x4) 78))))) ∧ (vp_in x3 4096) ∧ ((((nh_hs x3 x5) ∧ ((nh_hs x1 x5) ∧ (¬ (x2 ≤ x4) ∧ (nh_hs (σ.2.1 1 ((12 + x4).toNatClampNeg)) x5)))) → (vp_in (x3 &&& ((1 <<< (x5 &&& 31)) ^^^ (-1))) 4096))) ∧ nh_E kX9_laddersOf 39 [some (.ref 0), some (.int x1), some (.int x2), some (.int x3), some (.int x4), some (.int (x5 + 1)), none] [] (nh_wa σ 25 x3.toNatClampNeg ((σ.2.1 25 x3.toNatClampNeg) + (if (nh_hs x3 x5) ∧ ((nh_hs x1 x5) ∧ (¬ (x2 ≤ x4) ∧ (nh_hs (σ.2.1 1 ((12 + x4).toNatClampNeg)) x5))) then σ.2.1 25 ((x3 &&& ((1 <<< (x5 &&& 31)) ^^^ (-1))).toNatClampNeg) else 0))) Q))))) : nh_E kX9_laddersOf 39 [some (.ref 0), some (.int x1), some (.int x2), some (.int x3), some (.int x4), some (.int x5), none] [] σ Q := by
  refine nE_iload dX9_laddersOf_39 rfl ?_
  refine nE_aload_n dX9_laddersOf_41 rfl rfl ?_
  refine nE_getC fl_X9_35 sR_0 rfl dX9_laddersOf_42 ?_
  refine nE_iconst (v := 1) dX9_laddersOf_45 (by decide) ?_
  refine nG_iald (j := 1) sR_9 (by decide) dX9_laddersOf_46 ⟨(nh_vi (by decide)), ?_⟩
  refine nE_icmp_ge (tgt := 140) dX9_laddersOf_47 (by decide) ⟨fun c1 => ?_, fun c1 => ?_⟩
  · have h := h.1 c1
    refine nE_iinc (v := x3 + 1) dX9_laddersOf_140 rfl rfl (by decide) rfl ?_
    refine nE_goto (tgt := 2) dX9_laddersOf_143 (by decide) ?_
    refine nE_weak 4 ?_
    refine nE_weak 5 ?_
    exact h
  · have h := h.2 c1
    refine nE_iload_n dX9_laddersOf_50 rfl rfl ?_
    refine nE_if_le (tgt := 140) dX9_laddersOf_51 (by decide) ⟨fun c2 => ?_, fun c2 => ?_⟩
    · have h := h.1 c2
      refine nE_iinc (v := x3 + 1) dX9_laddersOf_140 rfl rfl (by decide) rfl ?_
      refine nE_goto (tgt := 2) dX9_laddersOf_143 (by decide) ?_
      refine nE_weak 4 ?_
      refine nE_weak 5 ?_
      exact h
    · have h := h.2 c2
      refine nE_iload_n dX9_laddersOf_54 rfl rfl ?_
      refine nE_iload dX9_laddersOf_55 rfl ?_
      refine nE_callS (As := [.int x3, .int x5]) yf_X9_has ⟨by decide, by decide⟩ rfl sl_X9_146 dX9_laddersOf_57 rfl rfl (Nat.le_of_ble_eq_true rfl) (Nat.le_of_ble_eq_true rfl) (p_X9_has _ _ ?_)
      obtain ⟨u4, h⟩ := h
      have j13 : nh_E kX9_laddersOf 101 [some (.ref 0), some (.int x1), some (.int x2), some (.int x3), some (.int x4), some (.int x5), none] [.int (if (nh_hs x3 x5) ∧ ((nh_hs x1 x5) ∧ (¬ (x2 ≤ x4) ∧ (nh_hs (σ.2.1 1 ((12 + x4).toNatClampNeg)) x5))) then 1 else 0)] σ Q := by
        refine nE_istore dX9_laddersOf_101 rfl (by decide) ?_
        refine nE_aload_n dX9_laddersOf_103 rfl rfl ?_
        refine nE_getC fl_X9_87 sR_0 rfl dX9_laddersOf_104 ?_
        refine nE_iload_n dX9_laddersOf_107 rfl rfl ?_
        refine nE_dup2 dX9_laddersOf_108 rfl rfl ?_
        obtain ⟨g5, h⟩ := h
        refine nG_iald (j := x3.toNatClampNeg) sR_25 rfl dX9_laddersOf_109 ⟨g5, ?_⟩
        refine nE_iload dX9_laddersOf_110 rfl ?_
        obtain ⟨u7, h⟩ := h
        have j8 : nh_E kX9_laddersOf 132 [some (.ref 0), some (.int x1), some (.int x2), some (.int x3), some (.int x4), some (.int x5), some (.int (if (nh_hs x3 x5) ∧ ((nh_hs x1 x5) ∧ (¬ (x2 ≤ x4) ∧ (nh_hs (σ.2.1 1 ((12 + x4).toNatClampNeg)) x5))) then 1 else 0))] [.int (if (nh_hs x3 x5) ∧ ((nh_hs x1 x5) ∧ (¬ (x2 ≤ x4) ∧ (nh_hs (σ.2.1 1 ((12 + x4).toNatClampNeg)) x5))) then σ.2.1 25 ((x3 &&& ((1 <<< (x5 &&& 31)) ^^^ (-1))).toNatClampNeg) else 0), .int (σ.2.1 25 x3.toNatClampNeg), .int x3, .ref 25] σ Q := by
          refine nE_iadd dX9_laddersOf_132 ?_
          refine nG_iast (j := x3.toNatClampNeg) sR_25 rfl dX9_laddersOf_133 ⟨g5, ?_⟩
          refine nE_iinc (v := x5 + 1) dX9_laddersOf_134 rfl rfl (by decide) rfl ?_
          refine nE_goto (tgt := 39) dX9_laddersOf_137 (by decide) ?_
          refine nE_weak 6 ?_
          exact h
        have u9 := u7
        refine nE_ifb_eq (tgt := 131) dX9_laddersOf_112 (by decide) ⟨fun c10 => ?_, fun c10 => ?_⟩
        · skip
          have f11 : ((nh_hs x3 x5) ∧ ((nh_hs x1 x5) ∧ (¬ (x2 ≤ x4) ∧ (nh_hs (σ.2.1 1 ((12 + x4).toNatClampNeg)) x5)))) = False := eq_false c10
          refine nE_iconst (v := 0) dX9_laddersOf_131 (by decide) ?_
          exact nh_topi (show ((if (nh_hs x3 x5) ∧ ((nh_hs x1 x5) ∧ (¬ (x2 ≤ x4) ∧ (nh_hs (σ.2.1 1 ((12 + x4).toNatClampNeg)) x5))) then σ.2.1 25 ((x3 &&& ((1 <<< (x5 &&& 31)) ^^^ (-1))).toNatClampNeg) else 0) : Int32) = 0 from by simp only [if_true, if_false, not_true_eq_false, not_false_eq_true, true_and, and_true, false_and, and_false, true_or, or_true, false_or, or_false, if_pos, if_neg, ite_true, ite_false, f11]) j8
        · skip
          have f12 : ((nh_hs x3 x5) ∧ ((nh_hs x1 x5) ∧ (¬ (x2 ≤ x4) ∧ (nh_hs (σ.2.1 1 ((12 + x4).toNatClampNeg)) x5)))) = True := eq_true c10
          have g6 := (u9 c10)
          refine nE_aload_n dX9_laddersOf_115 rfl rfl ?_
          refine nE_getC fl_X9_87 sR_0 rfl dX9_laddersOf_116 ?_
          refine nE_iload_n dX9_laddersOf_119 rfl rfl ?_
          refine nE_iconst (v := 1) dX9_laddersOf_120 (by decide) ?_
          refine nE_iload dX9_laddersOf_121 rfl ?_
          refine nE_ishl dX9_laddersOf_123 ?_
          refine nE_iconst (v := (-1)) dX9_laddersOf_124 (by decide) ?_
          refine nE_ixor dX9_laddersOf_125 ?_
          refine nE_iand dX9_laddersOf_126 ?_
          refine nG_iald (j := (x3 &&& ((1 <<< (x5 &&& 31)) ^^^ (-1))).toNatClampNeg) sR_25 rfl dX9_laddersOf_127 ⟨g6, ?_⟩
          refine nE_goto (tgt := 132) dX9_laddersOf_128 (by decide) ?_
          exact nh_topi (show ((if (nh_hs x3 x5) ∧ ((nh_hs x1 x5) ∧ (¬ (x2 ≤ x4) ∧ (nh_hs (σ.2.1 1 ((12 + x4).toNatClampNeg)) x5))) then σ.2.1 25 ((x3 &&& ((1 <<< (x5 &&& 31)) ^^^ (-1))).toNatClampNeg) else 0) : Int32) = σ.2.1 25 ((x3 &&& ((1 <<< (x5 &&& 31)) ^^^ (-1))).toNatClampNeg) from by simp only [if_true, if_false, not_true_eq_false, not_false_eq_true, true_and, and_true, false_and, and_false, true_or, or_true, false_or, or_false, if_pos, if_neg, ite_true, ite_false, f12]) j8
      have u14 := u4
      refine nE_ifb_eq (tgt := 100) dX9_laddersOf_60 (by decide) ⟨fun c15 => ?_, fun c15 => ?_⟩
      · skip
        have f16 : (nh_hs x3 x5) = False := eq_false c15
        refine nE_iconst (v := 0) dX9_laddersOf_100 (by decide) ?_
        exact nh_topi (show ((if (nh_hs x3 x5) ∧ ((nh_hs x1 x5) ∧ (¬ (x2 ≤ x4) ∧ (nh_hs (σ.2.1 1 ((12 + x4).toNatClampNeg)) x5))) then 1 else 0) : Int32) = 0 from by simp only [if_true, if_false, not_true_eq_false, not_false_eq_true, true_and, and_true, false_and, and_false, true_or, or_true, false_or, or_false, if_pos, if_neg, ite_true, ite_false, f16]) j13
      · skip
        have f17 : (nh_hs x3 x5) = True := eq_true c15
        have u18 := (u14 c15)
        refine nE_iload_n dX9_laddersOf_63 rfl rfl ?_
        refine nE_iload dX9_laddersOf_64 rfl ?_
        refine nE_callS (As := [.int x1, .int x5]) yf_X9_has ⟨by decide, by decide⟩ rfl sl_X9_146 dX9_laddersOf_66 rfl rfl (Nat.le_of_ble_eq_true rfl) (Nat.le_of_ble_eq_true rfl) (p_X9_has _ _ ?_)
        refine nE_ifb_eq (tgt := 100) dX9_laddersOf_69 (by decide) ⟨fun c19 => ?_, fun c19 => ?_⟩
        · skip
          have f20 : (nh_hs x1 x5) = False := eq_false c19
          refine nE_iconst (v := 0) dX9_laddersOf_100 (by decide) ?_
          exact nh_topi (show ((if (nh_hs x3 x5) ∧ ((nh_hs x1 x5) ∧ (¬ (x2 ≤ x4) ∧ (nh_hs (σ.2.1 1 ((12 + x4).toNatClampNeg)) x5))) then 1 else 0) : Int32) = 0 from by simp only [if_true, if_false, not_true_eq_false, not_false_eq_true, true_and, and_true, false_and, and_false, true_or, or_true, false_or, or_false, if_pos, if_neg, ite_true, ite_false, f17, f20]) j13
        · skip
          have f21 : (nh_hs x1 x5) = True := eq_true c19
          have u22 := (u18 c19)
          refine nE_iload dX9_laddersOf_72 rfl ?_
          refine nE_iload_n dX9_laddersOf_74 rfl rfl ?_
          refine nE_icmp_ge (tgt := 100) dX9_laddersOf_75 (by decide) ⟨fun c23 => ?_, fun c23 => ?_⟩
          · skip
            have f24 : (x2 ≤ x4) = True := eq_true c23
            refine nE_iconst (v := 0) dX9_laddersOf_100 (by decide) ?_
            exact nh_topi (show ((if (nh_hs x3 x5) ∧ ((nh_hs x1 x5) ∧ (¬ (x2 ≤ x4) ∧ (nh_hs (σ.2.1 1 ((12 + x4).toNatClampNeg)) x5))) then 1 else 0) : Int32) = 0 from by simp only [if_true, if_false, not_true_eq_false, not_false_eq_true, true_and, and_true, false_and, and_false, true_or, or_true, false_or, or_false, if_pos, if_neg, ite_true, ite_false, f17, f21, f24]) j13
          · skip
            have f25 : (x2 ≤ x4) = False := eq_false c23
            have g3 := (u22 c23)
            refine nE_aload_n dX9_laddersOf_78 rfl rfl ?_
            refine nE_getC fl_X9_7 sR_0 rfl dX9_laddersOf_79 ?_
            refine nE_bipush (v := 12) dX9_laddersOf_82 (by decide) ?_
            refine nE_iload dX9_laddersOf_84 rfl ?_
            refine nE_iadd dX9_laddersOf_86 ?_
            refine nG_iald (j := (12 + x4).toNatClampNeg) sR_1 rfl dX9_laddersOf_87 ⟨g3, ?_⟩
            refine nE_iload dX9_laddersOf_88 rfl ?_
            refine nE_callS (As := [.int (σ.2.1 1 ((12 + x4).toNatClampNeg)), .int x5]) yf_X9_has ⟨by decide, by decide⟩ rfl sl_X9_146 dX9_laddersOf_90 rfl rfl (Nat.le_of_ble_eq_true rfl) (Nat.le_of_ble_eq_true rfl) (p_X9_has _ _ ?_)
            refine nE_ifb_eq (tgt := 100) dX9_laddersOf_93 (by decide) ⟨fun c26 => ?_, fun c26 => ?_⟩
            · skip
              have f27 : (nh_hs (σ.2.1 1 ((12 + x4).toNatClampNeg)) x5) = False := eq_false c26
              refine nE_iconst (v := 0) dX9_laddersOf_100 (by decide) ?_
              exact nh_topi (show ((if (nh_hs x3 x5) ∧ ((nh_hs x1 x5) ∧ (¬ (x2 ≤ x4) ∧ (nh_hs (σ.2.1 1 ((12 + x4).toNatClampNeg)) x5))) then 1 else 0) : Int32) = 0 from by simp only [if_true, if_false, not_true_eq_false, not_false_eq_true, true_and, and_true, false_and, and_false, true_or, or_true, false_or, or_false, if_pos, if_neg, ite_true, ite_false, f17, f21, f25, f27]) j13
            · skip
              have f28 : (nh_hs (σ.2.1 1 ((12 + x4).toNatClampNeg)) x5) = True := eq_true c26
              refine nE_iconst (v := 1) dX9_laddersOf_96 (by decide) ?_
              refine nE_goto (tgt := 101) dX9_laddersOf_97 (by decide) ?_
              exact nh_topi (show ((if (nh_hs x3 x5) ∧ ((nh_hs x1 x5) ∧ (¬ (x2 ≤ x4) ∧ (nh_hs (σ.2.1 1 ((12 + x4).toNatClampNeg)) x5))) then 1 else 0) : Int32) = 1 from by simp only [if_true, if_false, not_true_eq_false, not_false_eq_true, true_and, and_true, false_and, and_false, true_or, or_true, false_or, or_false, if_pos, if_neg, ite_true, ite_false, f17, f21, f25, f28]) j13
set_option maxRecDepth 20000 in
theorem sg_X9_laddersOf_151 (x2 : Int32) (x3 : Int32) (x4 : Int32) {σ : nh_S} {Q : Option Value → nh_S → Prop} (h : ((1 <<< ((σ.2.1 9 1) &&& 31)) - 1 < x4 → (Q (some (.int x3)) σ)) ∧ (¬ ((1 <<< ((σ.2.1 9 1) &&& 31)) - 1 < x4) → (nh_E kX9_ones 0 [some (.int x4), none, none] [] σ (nh_qi fun r3 τ2 => (((r3 = x2) → (vp_in x4 4096))) ∧ nh_E kX9_laddersOf 151 [some (.ref 0), none, some (.int x2), some (.int (x3 + (if r3 = x2 then τ2.2.1 25 x4.toNatClampNeg else 0))), some (.int (x4 + 1)), none, none] [] τ2 Q)))) : nh_E kX9_laddersOf 151 [some (.ref 0), none, some (.int x2), some (.int x3), some (.int x4), none, none] [] σ Q := by
  refine nE_iload dX9_laddersOf_151 rfl ?_
  refine nE_aload_n dX9_laddersOf_153 rfl rfl ?_
  refine nE_callV (As := []) yf_X9_allParts ⟨by decide, by decide⟩ rfl rfl sR_0 rfl vl_X9_236 dX9_laddersOf_154 rfl rfl (Nat.le_of_ble_eq_true rfl) (Nat.le_of_ble_eq_true rfl) (p_X9_allParts ?_)
  refine nE_icmp_gt (tgt := 189) dX9_laddersOf_157 (by decide) ⟨fun c1 => ?_, fun c1 => ?_⟩
  · have h := h.1 c1
    refine nE_iload_n dX9_laddersOf_189 rfl rfl ?_
    exact nE_iret dX9_laddersOf_190 rfl h
  · have h := h.2 c1
    refine nE_iload_n dX9_laddersOf_160 rfl rfl ?_
    refine nE_iload dX9_laddersOf_161 rfl ?_
    refine nE_callS (As := [.int x4]) yf_X9_ones ⟨by decide, by decide⟩ rfl sl_X9_189 dX9_laddersOf_163 rfl rfl (Nat.le_of_ble_eq_true rfl) (Nat.le_of_ble_eq_true rfl) (nE_mono (fun z4 τ2 h => ?_) h)
    obtain ⟨r3, rfl, h⟩ := h
    refine nE_iload_n dX9_laddersOf_166 rfl rfl ?_
    obtain ⟨u6, h⟩ := h
    have j7 : nh_E kX9_laddersOf 181 [some (.ref 0), none, some (.int x2), some (.int x3), some (.int x4), none, none] [.int (if r3 = x2 then τ2.2.1 25 x4.toNatClampNeg else 0), .int x3] τ2 Q := by
      refine nE_iadd dX9_laddersOf_181 ?_
      refine nE_istore_n dX9_laddersOf_182 rfl rfl (by decide) ?_
      refine nE_iinc (v := x4 + 1) dX9_laddersOf_183 rfl rfl (by decide) rfl ?_
      refine nE_goto (tgt := 151) dX9_laddersOf_186 (by decide) ?_
      exact h
    have u8 := u6
    refine nE_icmp_ne (tgt := 180) dX9_laddersOf_167 (by decide) ⟨fun c9 => ?_, fun c9 => ?_⟩
    · skip
      have f10 : (r3 = x2) = False := eq_false c9
      refine nE_iconst (v := 0) dX9_laddersOf_180 (by decide) ?_
      exact nh_topi (show ((if r3 = x2 then τ2.2.1 25 x4.toNatClampNeg else 0) : Int32) = 0 from by simp only [if_true, if_false, not_true_eq_false, not_false_eq_true, true_and, and_true, false_and, and_false, true_or, or_true, false_or, or_false, if_pos, if_neg, ite_true, ite_false, f10]) j7
    · skip
      have f11 : (r3 = x2) = True := eq_true c9
      have g5 := (u8 c9)
      refine nE_aload_n dX9_laddersOf_170 rfl rfl ?_
      refine nE_getC fl_X9_87 sR_0 rfl dX9_laddersOf_171 ?_
      refine nE_iload dX9_laddersOf_174 rfl ?_
      refine nG_iald (j := x4.toNatClampNeg) sR_25 rfl dX9_laddersOf_176 ⟨g5, ?_⟩
      refine nE_goto (tgt := 181) dX9_laddersOf_177 (by decide) ?_
      exact nh_topi (show ((if r3 = x2 then τ2.2.1 25 x4.toNatClampNeg else 0) : Int32) = τ2.2.1 25 x4.toNatClampNeg from by simp only [if_true, if_false, not_true_eq_false, not_false_eq_true, true_and, and_true, false_and, and_false, true_or, or_true, false_or, or_false, if_pos, if_neg, ite_true, ite_false, f11]) j7
set_option maxRecDepth 20000 in
theorem sg_X9_ladders_0 (x1 : Int32) (x2 : Int32) {σ : nh_S} {Q : Option Value → nh_S → Prop} (h : (¬ (x1 < 0) ∧ ¬ ((1 <<< ((σ.2.1 9 1) &&& 31)) - 1 < x1) → ((¬ (¬ (x2 < 0) ∧ ¬ ((σ.2.1 9 1) < x2)) → (Q (some (.int (-1000002))) σ)) ∧ (¬ (x2 < 0) ∧ ¬ ((σ.2.1 9 1) < x2) → (nh_E kX9_laddersOf 0 [some (.ref 0), some (.int x1), some (.int x2), none, none, none, none] [] σ (nh_qi fun r4 τ3 => Q (some (.int r4)) τ3))))) ∧ (¬ (¬ (x1 < 0) ∧ ¬ ((1 <<< ((σ.2.1 9 1) &&& 31)) - 1 < x1)) → (Q (some (.int (-1000001))) σ))) : nh_E kX9_ladders 0 [some (.ref 0), some (.int x1), some (.int x2)] [] σ Q := by
  refine nE_aload_n dX9_ladders_0 rfl rfl ?_
  refine nE_iload_n dX9_ladders_1 rfl rfl ?_
  refine nE_callV (As := [.int x1]) yf_X9_isParts ⟨by decide, by decide⟩ rfl rfl sR_0 rfl vl_X9_297 dX9_ladders_2 rfl rfl (Nat.le_of_ble_eq_true rfl) (Nat.le_of_ble_eq_true rfl) (p_X9_isParts _ ?_)
  refine nE_ifb_ne (tgt := 11) dX9_ladders_5 (by decide) ⟨fun c1 => ?_, fun c1 => ?_⟩
  · have h := h.1 c1
    refine nE_iload_n dX9_ladders_11 rfl rfl ?_
    refine nE_i2l dX9_ladders_12 ?_
    refine nE_lconst (v := 0) dX9_ladders_13 (by decide) ?_
    refine nE_aload_n dX9_ladders_14 rfl rfl ?_
    refine nE_getC fl_X9_35 sR_0 rfl dX9_ladders_15 ?_
    refine nE_iconst (v := 1) dX9_ladders_18 (by decide) ?_
    refine nG_iald (j := 1) sR_9 (by decide) dX9_ladders_19 ⟨(nh_vi (by decide)), ?_⟩
    refine nE_i2l dX9_ladders_20 ?_
    refine nE_callS (As := [.long x2.toInt64, .long 0, .long ((σ.2.1 9 1).toInt64)]) yf_X9_in ⟨by decide, by decide⟩ rfl sl_X9_95 dX9_ladders_21 rfl rfl (Nat.le_of_ble_eq_true rfl) (Nat.le_of_ble_eq_true rfl) (p_X9_in x2 0 (σ.2.1 9 1) (by decide) rfl ?_)
    refine nE_ifb_eq (tgt := 36) dX9_ladders_24 (by decide) ⟨fun c2 => ?_, fun c2 => ?_⟩
    · have h := h.1 c2
      refine nE_ldc kc_X9_99 dX9_ladders_36 ?_
      exact nE_iret dX9_ladders_38 rfl h
    · have h := h.2 c2
      refine nE_aload_n dX9_ladders_27 rfl rfl ?_
      refine nE_iload_n dX9_ladders_28 rfl rfl ?_
      refine nE_iload_n dX9_ladders_29 rfl rfl ?_
      refine nE_callV (As := [.int x1, .int x2]) yf_X9_laddersOf ⟨by decide, by decide⟩ rfl rfl sR_0 rfl vl_X9_305 dX9_ladders_30 rfl rfl (Nat.le_of_ble_eq_true rfl) (Nat.le_of_ble_eq_true rfl) (nE_mono (fun z5 τ3 h => ?_) h)
      obtain ⟨r4, rfl, h⟩ := h
      refine nE_goto (tgt := 38) dX9_ladders_33 (by decide) ?_
      exact nE_iret dX9_ladders_38 rfl h
  · have h := h.2 c1
    refine nE_ldc kc_X9_197 dX9_ladders_8 ?_
    exact nE_iret dX9_ladders_10 rfl h
set_option maxRecDepth 20000 in
theorem sg_X9_longest_0 (x1 : Int32) {σ : nh_S} {Q : Option Value → nh_S → Prop} (h : (¬ (x1 < 0) ∧ ¬ ((1 <<< ((σ.2.1 9 1) &&& 31)) - 1 < x1) → (nh_E kX9_longest 18 [some (.ref 0), some (.int x1), some (.int (σ.2.1 9 1))] [] σ Q)) ∧ (¬ (¬ (x1 < 0) ∧ ¬ ((1 <<< ((σ.2.1 9 1) &&& 31)) - 1 < x1)) → (Q (some (.int (-1000001))) σ))) : nh_E kX9_longest 0 [some (.ref 0), some (.int x1), none] [] σ Q := by
  refine nE_aload_n dX9_longest_0 rfl rfl ?_
  refine nE_iload_n dX9_longest_1 rfl rfl ?_
  refine nE_callV (As := [.int x1]) yf_X9_isParts ⟨by decide, by decide⟩ rfl rfl sR_0 rfl vl_X9_297 dX9_longest_2 rfl rfl (Nat.le_of_ble_eq_true rfl) (Nat.le_of_ble_eq_true rfl) (p_X9_isParts _ ?_)
  refine nE_ifb_ne (tgt := 11) dX9_longest_5 (by decide) ⟨fun c1 => ?_, fun c1 => ?_⟩
  · have h := h.1 c1
    refine nE_aload_n dX9_longest_11 rfl rfl ?_
    refine nE_getC fl_X9_35 sR_0 rfl dX9_longest_12 ?_
    refine nE_iconst (v := 1) dX9_longest_15 (by decide) ?_
    refine nG_iald (j := 1) sR_9 (by decide) dX9_longest_16 ⟨(nh_vi (by decide)), ?_⟩
    refine nE_istore_n dX9_longest_17 rfl rfl (by decide) ?_
    exact h
  · have h := h.2 c1
    refine nE_ldc kc_X9_197 dX9_longest_8 ?_
    exact nE_iret dX9_longest_10 rfl h
set_option maxRecDepth 20000 in
theorem sg_X9_longest_18 (x1 : Int32) (x2 : Int32) {σ : nh_S} {Q : Option Value → nh_S → Prop} (h : nh_E kX9_laddersOf 0 [some (.ref 0), some (.int x1), some (.int x2), none, none, none, none] [] σ (nh_qi fun r2 τ1 => (¬ (r2 = 0) → (Q (some (.int x2)) τ1)) ∧ (r2 = 0 → (nh_E kX9_longest 18 [some (.ref 0), some (.int x1), some (.int (x2 + (-1)))] [] τ1 Q)))) : nh_E kX9_longest 18 [some (.ref 0), some (.int x1), some (.int x2)] [] σ Q := by
  refine nE_aload_n dX9_longest_18 rfl rfl ?_
  refine nE_iload_n dX9_longest_19 rfl rfl ?_
  refine nE_iload_n dX9_longest_20 rfl rfl ?_
  refine nE_callV (As := [.int x1, .int x2]) yf_X9_laddersOf ⟨by decide, by decide⟩ rfl rfl sR_0 rfl vl_X9_305 dX9_longest_21 rfl rfl (Nat.le_of_ble_eq_true rfl) (Nat.le_of_ble_eq_true rfl) (nE_mono (fun z3 τ1 h => ?_) h)
  obtain ⟨r2, rfl, h⟩ := h
  refine nE_if_ne (tgt := 33) dX9_longest_24 (by decide) ⟨fun c4 => ?_, fun c4 => ?_⟩
  · have h := h.1 c4
    refine nE_iload_n dX9_longest_33 rfl rfl ?_
    exact nE_iret dX9_longest_34 rfl h
  · have h := h.2 c4
    refine nE_iinc (v := x2 + (-1)) dX9_longest_27 rfl rfl (by decide) rfl ?_
    refine nE_goto (tgt := 18) dX9_longest_30 (by decide) ?_
    exact h
set_option maxRecDepth 20000 in
theorem sg_X9_cost_0 (x1 : Int32) (x2 : Int32) {σ : nh_S} {Q : Option Value → nh_S → Prop} (h : (¬ (x1 < 0) ∧ ¬ ((σ.2.1 9 1) - 1 < x1) → ((¬ (x2 < 0) ∧ ¬ (99 < x2) → ((vp_in x1 12) ∧ Q (some (.int (σ.2.1 12 x1.toNatClampNeg))) (nh_wa σ 12 x1.toNatClampNeg x2))) ∧ (¬ (¬ (x2 < 0) ∧ ¬ (99 < x2)) → (Q (some (.int (-1000002))) σ)))) ∧ (¬ (¬ (x1 < 0) ∧ ¬ ((σ.2.1 9 1) - 1 < x1)) → (Q (some (.int (-1000001))) σ))) : nh_E kX9_cost 0 [some (.ref 0), some (.int x1), some (.int x2), none] [] σ Q := by
  refine nE_aload_n dX9_cost_0 rfl rfl ?_
  refine nE_iload_n dX9_cost_1 rfl rfl ?_
  refine nE_callV (As := [.int x1]) yf_X9_isPart ⟨by decide, by decide⟩ rfl rfl sR_0 rfl vl_X9_206 dX9_cost_2 rfl rfl (Nat.le_of_ble_eq_true rfl) (Nat.le_of_ble_eq_true rfl) (p_X9_isPart _ ?_)
  refine nE_ifb_ne (tgt := 11) dX9_cost_5 (by decide) ⟨fun c1 => ?_, fun c1 => ?_⟩
  · have h := h.1 c1
    refine nE_iload_n dX9_cost_11 rfl rfl ?_
    refine nE_i2l dX9_cost_12 ?_
    refine nE_lconst (v := 0) dX9_cost_13 (by decide) ?_
    refine nE_ldc2 kc_X9_308 dX9_cost_14 ?_
    refine nE_callS (As := [.long x2.toInt64, .long 0, .long 99]) yf_X9_in ⟨by decide, by decide⟩ rfl sl_X9_95 dX9_cost_17 rfl rfl (Nat.le_of_ble_eq_true rfl) (Nat.le_of_ble_eq_true rfl) (p_X9_in x2 0 99 (by decide) (by decide) ?_)
    refine nE_ifb_ne (tgt := 26) dX9_cost_20 (by decide) ⟨fun c2 => ?_, fun c2 => ?_⟩
    · have h := h.1 c2
      refine nE_aload_n dX9_cost_26 rfl rfl ?_
      refine nE_getC fl_X9_44 sR_0 rfl dX9_cost_27 ?_
      refine nE_iload_n dX9_cost_30 rfl rfl ?_
      obtain ⟨g3, h⟩ := h
      refine nG_iald (j := x1.toNatClampNeg) sR_12 rfl dX9_cost_31 ⟨g3, ?_⟩
      refine nE_istore_n dX9_cost_32 rfl rfl (by decide) ?_
      refine nE_aload_n dX9_cost_33 rfl rfl ?_
      refine nE_getC fl_X9_44 sR_0 rfl dX9_cost_34 ?_
      refine nE_iload_n dX9_cost_37 rfl rfl ?_
      refine nE_iload_n dX9_cost_38 rfl rfl ?_
      refine nG_iast (j := x1.toNatClampNeg) sR_12 rfl dX9_cost_39 ⟨g3, ?_⟩
      refine nE_iload_n dX9_cost_40 rfl rfl ?_
      exact nE_iret dX9_cost_41 rfl h
    · have h := h.2 c2
      refine nE_ldc kc_X9_99 dX9_cost_23 ?_
      exact nE_iret dX9_cost_25 rfl h
  · have h := h.2 c1
    refine nE_ldc kc_X9_197 dX9_cost_8 ?_
    exact nE_iret dX9_cost_10 rfl h
set_option maxRecDepth 20000 in
theorem sg_X9_store_0 (x1 : Int32) {σ : nh_S} {Q : Option Value → nh_S → Prop} (h : (¬ (x1 < 0) ∧ ¬ ((σ.2.1 9 0) - 1 < x1) → (Q (some (.int (σ.1 0 14))) (nh_si σ 0 14 x1))) ∧ (¬ (¬ (x1 < 0) ∧ ¬ ((σ.2.1 9 0) - 1 < x1)) → (Q (some (.int (-1000001))) σ))) : nh_E kX9_store 0 [some (.ref 0), some (.int x1), none] [] σ Q := by
  refine nE_aload_n dX9_store_0 rfl rfl ?_
  refine nE_iload_n dX9_store_1 rfl rfl ?_
  refine nE_callV (As := [.int x1]) yf_X9_isHouse ⟨by decide, by decide⟩ rfl rfl sR_0 rfl vl_X9_193 dX9_store_2 rfl rfl (Nat.le_of_ble_eq_true rfl) (Nat.le_of_ble_eq_true rfl) (p_X9_isHouse _ ?_)
  refine nE_ifb_ne (tgt := 11) dX9_store_5 (by decide) ⟨fun c1 => ?_, fun c1 => ?_⟩
  · have h := h.1 c1
    refine nE_aload_n dX9_store_11 rfl rfl ?_
    refine nE_getI fl_X9_176 sR_0 rfl dX9_store_12 ?_
    refine nE_istore_n dX9_store_15 rfl rfl (by decide) ?_
    refine nE_aload_n dX9_store_16 rfl rfl ?_
    refine nE_iload_n dX9_store_17 rfl rfl ?_
    refine nE_putI fl_X9_176 sR_0 rfl ⟨rfl, rfl⟩ dX9_store_18 ?_
    refine nE_iload_n dX9_store_21 rfl rfl ?_
    exact nE_iret dX9_store_22 rfl h
  · have h := h.2 c1
    refine nE_ldc kc_X9_197 dX9_store_8 ?_
    exact nE_iret dX9_store_10 rfl h
set_option maxRecDepth 20000 in
theorem sg_X9_spares_0 (x1 : Int32) (x2 : Int32) (x3 : Int32) (x4 : Int32) {σ : nh_S} {Q : Option Value → nh_S → Prop} (h : (¬ (¬ (x1 < 0) ∧ ¬ ((σ.2.1 9 0) - 1 < x1)) → (Q (some (.int (-1000001))) σ)) ∧ (¬ (x1 < 0) ∧ ¬ ((σ.2.1 9 0) - 1 < x1) → ((¬ (x2 < 0) ∧ ¬ ((σ.2.1 9 0) - 1 < x2) → ((¬ (¬ (x3 < 0) ∧ ¬ (999 < x3)) → (Q (some (.int (-1000002))) σ)) ∧ (¬ (x3 < 0) ∧ ¬ (999 < x3) → ((¬ (x4 < 0) ∧ ¬ (1 < x4) → (nh_E kX9_burn 0 [some (.ref 0), some (.int x1), some (.int x2), some (.int (σ.2.1 1 24)), none, none, none, none] [] σ (nh_qv fun τ5 => (vp_in (τ5.1 0 14) 9) ∧ nh_E kX9_spares 81 [some (.ref 0), none, none, some (.int x3), some (.int x4), some (.int (τ5.2.1 16 ((τ5.1 0 14).toNatClampNeg))), some (.int (-1)), some (.int 0), some (.int 0), some (.int 0), none, none] [] τ5 Q))) ∧ (¬ (¬ (x4 < 0) ∧ ¬ (1 < x4)) → (Q (some (.int (-1000002))) σ)))))) ∧ (¬ (¬ (x2 < 0) ∧ ¬ ((σ.2.1 9 0) - 1 < x2)) → (Q (some (.int (-1000001))) σ))))) : nh_E kX9_spares 0 [some (.ref 0), some (.int x1), some (.int x2), some (.int x3), some (.int x4), none, none, none, none, none, none, none] [] σ Q := by
  refine nE_aload_n dX9_spares_0 rfl rfl ?_
  refine nE_iload_n dX9_spares_1 rfl rfl ?_
  refine nE_callV (As := [.int x1]) yf_X9_isHouse ⟨by decide, by decide⟩ rfl rfl sR_0 rfl vl_X9_193 dX9_spares_2 rfl rfl (Nat.le_of_ble_eq_true rfl) (Nat.le_of_ble_eq_true rfl) (p_X9_isHouse _ ?_)
  refine nE_ifb_eq (tgt := 16) dX9_spares_5 (by decide) ⟨fun c1 => ?_, fun c1 => ?_⟩
  · have h := h.1 c1
    refine nE_ldc kc_X9_197 dX9_spares_16 ?_
    exact nE_iret dX9_spares_18 rfl h
  · have h := h.2 c1
    refine nE_aload_n dX9_spares_8 rfl rfl ?_
    refine nE_iload_n dX9_spares_9 rfl rfl ?_
    refine nE_callV (As := [.int x2]) yf_X9_isHouse ⟨by decide, by decide⟩ rfl rfl sR_0 rfl vl_X9_193 dX9_spares_10 rfl rfl (Nat.le_of_ble_eq_true rfl) (Nat.le_of_ble_eq_true rfl) (p_X9_isHouse _ ?_)
    refine nE_ifb_ne (tgt := 19) dX9_spares_13 (by decide) ⟨fun c2 => ?_, fun c2 => ?_⟩
    · have h := h.1 c2
      refine nE_iload_n dX9_spares_19 rfl rfl ?_
      refine nE_i2l dX9_spares_20 ?_
      refine nE_lconst (v := 0) dX9_spares_21 (by decide) ?_
      refine nE_ldc2 kc_X9_287 dX9_spares_22 ?_
      refine nE_callS (As := [.long x3.toInt64, .long 0, .long 999]) yf_X9_in ⟨by decide, by decide⟩ rfl sl_X9_95 dX9_spares_25 rfl rfl (Nat.le_of_ble_eq_true rfl) (Nat.le_of_ble_eq_true rfl) (p_X9_in x3 0 999 (by decide) (by decide) ?_)
      refine nE_ifb_eq (tgt := 42) dX9_spares_28 (by decide) ⟨fun c3 => ?_, fun c3 => ?_⟩
      · have h := h.1 c3
        refine nE_ldc kc_X9_99 dX9_spares_42 ?_
        exact nE_iret dX9_spares_44 rfl h
      · have h := h.2 c3
        refine nE_iload dX9_spares_31 rfl ?_
        refine nE_i2l dX9_spares_33 ?_
        refine nE_lconst (v := 0) dX9_spares_34 (by decide) ?_
        refine nE_lconst (v := 1) dX9_spares_35 (by decide) ?_
        refine nE_callS (As := [.long x4.toInt64, .long 0, .long 1]) yf_X9_in ⟨by decide, by decide⟩ rfl sl_X9_95 dX9_spares_36 rfl rfl (Nat.le_of_ble_eq_true rfl) (Nat.le_of_ble_eq_true rfl) (p_X9_in x4 0 1 (by decide) (by decide) ?_)
        refine nE_ifb_ne (tgt := 45) dX9_spares_39 (by decide) ⟨fun c4 => ?_, fun c4 => ?_⟩
        · have h := h.1 c4
          refine nE_aload_n dX9_spares_45 rfl rfl ?_
          refine nE_iload_n dX9_spares_46 rfl rfl ?_
          refine nE_iload_n dX9_spares_47 rfl rfl ?_
          refine nE_aload_n dX9_spares_48 rfl rfl ?_
          refine nE_getC fl_X9_7 sR_0 rfl dX9_spares_49 ?_
          refine nE_bipush (v := 24) dX9_spares_52 (by decide) ?_
          refine nG_iald (j := 24) sR_1 (by decide) dX9_spares_54 ⟨(nh_vi (by decide)), ?_⟩
          refine nE_callV (As := [.int x1, .int x2, .int (σ.2.1 1 24)]) yf_X9_burn ⟨by decide, by decide⟩ rfl rfl sR_0 rfl vl_X9_229 dX9_spares_55 rfl rfl (Nat.le_of_ble_eq_true rfl) (Nat.le_of_ble_eq_true rfl) (nE_mono (fun z7 τ5 h => ?_) h)
          obtain ⟨rfl, h⟩ := h
          refine nE_aload_n dX9_spares_58 rfl rfl ?_
          refine nE_getC fl_X9_60 sR_0 rfl dX9_spares_59 ?_
          refine nE_aload_n dX9_spares_62 rfl rfl ?_
          refine nE_getI fl_X9_176 sR_0 rfl dX9_spares_63 ?_
          obtain ⟨g8, h⟩ := h
          refine nG_iald (j := (τ5.1 0 14).toNatClampNeg) sR_16 rfl dX9_spares_66 ⟨g8, ?_⟩
          refine nE_istore dX9_spares_67 rfl (by decide) ?_
          refine nE_iconst (v := (-1)) dX9_spares_69 (by decide) ?_
          refine nE_istore dX9_spares_70 rfl (by decide) ?_
          refine nE_iconst (v := 0) dX9_spares_72 (by decide) ?_
          refine nE_istore dX9_spares_73 rfl (by decide) ?_
          refine nE_iconst (v := 0) dX9_spares_75 (by decide) ?_
          refine nE_istore dX9_spares_76 rfl (by decide) ?_
          refine nE_iconst (v := 0) dX9_spares_78 (by decide) ?_
          refine nE_istore dX9_spares_79 rfl (by decide) ?_
          refine nE_weak 1 ?_
          refine nE_weak 2 ?_
          exact h
        · have h := h.2 c4
          refine nE_ldc kc_X9_99 dX9_spares_42 ?_
          exact nE_iret dX9_spares_44 rfl h
    · have h := h.2 c2
      refine nE_ldc kc_X9_197 dX9_spares_16 ?_
      exact nE_iret dX9_spares_18 rfl h
set_option maxRecDepth 20000 in
theorem sg_X9_spares_81 (x3 : Int32) (x4 : Int32) (x5 : Int32) (x6 : Int32) (x7 : Int32) (x8 : Int32) (x9 : Int32) {σ : nh_S} {Q : Option Value → nh_S → Prop} (h : ((1 <<< ((σ.2.1 9 1) &&& 31)) - 1 < x9 → (Q (some (.int (if x4 = 0 then x6 else x7))) σ)) ∧ (¬ ((1 <<< ((σ.2.1 9 1) &&& 31)) - 1 < x9) → (nh_E kX9_comeAll 0 [some (.ref 0), none] [] σ (nh_qv fun τ6 => nh_E kX9_spares 100 [some (.ref 0), none, none, some (.int x3), some (.int x4), some (.int x5), some (.int x6), some (.int x7), some (.int x8), some (.int x9), some (.int 0), some (.int 0)] [] τ6 Q)))) : nh_E kX9_spares 81 [some (.ref 0), none, none, some (.int x3), some (.int x4), some (.int x5), some (.int x6), some (.int x7), some (.int x8), some (.int x9), none, none] [] σ Q := by
  refine nE_iload dX9_spares_81 rfl ?_
  refine nE_aload_n dX9_spares_83 rfl rfl ?_
  refine nE_callV (As := []) yf_X9_allParts ⟨by decide, by decide⟩ rfl rfl sR_0 rfl vl_X9_236 dX9_spares_84 rfl rfl (Nat.le_of_ble_eq_true rfl) (Nat.le_of_ble_eq_true rfl) (p_X9_allParts ?_)
  refine nE_icmp_gt (tgt := 248) dX9_spares_87 (by decide) ⟨fun c1 => ?_, fun c1 => ?_⟩
  · have h := h.1 c1
    refine nE_iload dX9_spares_248 rfl ?_
    have j2 : nh_E kX9_spares 260 [some (.ref 0), none, none, some (.int x3), some (.int x4), some (.int x5), some (.int x6), some (.int x7), some (.int x8), some (.int x9), none, none] [.int (if x4 = 0 then x6 else x7)] σ Q := by
      exact nE_iret dX9_spares_260 rfl h
    refine nE_if_ne (tgt := 258) dX9_spares_250 (by decide) ⟨fun c3 => ?_, fun c3 => ?_⟩
    · skip
      have f4 : (x4 = 0) = False := eq_false c3
      refine nE_iload dX9_spares_258 rfl ?_
      exact nh_topi (show ((if x4 = 0 then x6 else x7) : Int32) = x7 from by simp only [if_true, if_false, not_true_eq_false, not_false_eq_true, true_and, and_true, false_and, and_false, true_or, or_true, false_or, or_false, if_pos, if_neg, ite_true, ite_false, f4]) j2
    · skip
      have f5 : (x4 = 0) = True := eq_true c3
      refine nE_iload dX9_spares_253 rfl ?_
      refine nE_goto (tgt := 260) dX9_spares_255 (by decide) ?_
      exact nh_topi (show ((if x4 = 0 then x6 else x7) : Int32) = x6 from by simp only [if_true, if_false, not_true_eq_false, not_false_eq_true, true_and, and_true, false_and, and_false, true_or, or_true, false_or, or_false, if_pos, if_neg, ite_true, ite_false, f5]) j2
  · have h := h.2 c1
    refine nE_aload_n dX9_spares_90 rfl rfl ?_
    refine nE_callV (As := []) yf_X9_comeAll ⟨by decide, by decide⟩ rfl rfl sR_0 rfl vl_X9_233 dX9_spares_91 rfl rfl (Nat.le_of_ble_eq_true rfl) (Nat.le_of_ble_eq_true rfl) (nE_mono (fun z8 τ6 h => ?_) h)
    obtain ⟨rfl, h⟩ := h
    refine nE_iconst (v := 0) dX9_spares_94 (by decide) ?_
    refine nE_istore dX9_spares_95 rfl (by decide) ?_
    refine nE_iconst (v := 0) dX9_spares_97 (by decide) ?_
    refine nE_istore dX9_spares_98 rfl (by decide) ?_
    exact h
set_option maxRecDepth 20000 in
theorem sg_X9_spares_100 (x3 : Int32) (x4 : Int32) (x5 : Int32) (x6 : Int32) (x7 : Int32) (x8 : Int32) (x9 : Int32) (x10 : Int32) (x11 : Int32) {σ : nh_S} {Q : Option Value → nh_S → Prop} (h : (σ.2.1 9 1 ≤ x11 → ((x3 < x10 → (nh_E kX9_spares 81 [some (.ref 0), none, none, some (.int x3), some (.int x4), some (.int x5), some (.int x6), some (.int x7), some (.int x8), some (.int (x9 + 1)), none, none] [] σ Q)) ∧ (¬ (x3 < x10) → (nh_E kX9_putIn 0 [some (.ref 0), some (.int ((1 <<< ((σ.2.1 9 1) &&& 31)) - 1)), none, none, none] [] σ (nh_qi fun r4 τ3 => (x6 < 0 → (nh_E kX9_spares 81 [some (.ref 0), none, none, some (.int x3), some (.int x4), some (.int x5), some (.int x9), some (.int (if 0 ≤ r4 then r4 else 500)), some (.int x10), some (.int (x9 + 1)), none, none] [] τ3 Q)) ∧ (¬ (x6 < 0) → (((if 0 ≤ r4 then r4 else 500) < x7 → (nh_E kX9_spares 81 [some (.ref 0), none, none, some (.int x3), some (.int x4), some (.int x5), some (.int x9), some (.int (if 0 ≤ r4 then r4 else 500)), some (.int x10), some (.int (x9 + 1)), none, none] [] τ3 Q)) ∧ (¬ ((if 0 ≤ r4 then r4 else 500) < x7) → ((¬ ((if 0 ≤ r4 then r4 else 500) = x7) → (nh_E kX9_spares 81 [some (.ref 0), none, none, some (.int x3), some (.int x4), some (.int x5), some (.int x6), some (.int x7), some (.int x8), some (.int (x9 + 1)), none, none] [] τ3 Q)) ∧ ((if 0 ≤ r4 then r4 else 500) = x7 → ((x8 ≤ x10 → (nh_E kX9_spares 81 [some (.ref 0), none, none, some (.int x3), some (.int x4), some (.int x5), some (.int x6), some (.int x7), some (.int x8), some (.int (x9 + 1)), none, none] [] τ3 Q)) ∧ (¬ (x8 ≤ x10) → (nh_E kX9_spares 81 [some (.ref 0), none, none, some (.int x3), some (.int x4), some (.int x5), some (.int x9), some (.int (if 0 ≤ r4 then r4 else 500)), some (.int x10), some (.int (x9 + 1)), none, none] [] τ3 Q))))))))))))) ∧ (¬ (σ.2.1 9 1 ≤ x11) → ((¬ (nh_hs x9 x11) → (nh_E kX9_spares 100 [some (.ref 0), none, none, some (.int x3), some (.int x4), some (.int x5), some (.int x6), some (.int x7), some (.int x8), some (.int x9), some (.int x10), some (.int (x11 + 1))] [] σ Q)) ∧ (nh_hs x9 x11 → ((vp_in x11 12) ∧ nh_E kX9_spares 100 [some (.ref 0), none, none, some (.int x3), some (.int x4), some (.int x5), some (.int x6), some (.int x7), some (.int x8), some (.int x9), some (.int (x10 + (σ.2.1 12 x11.toNatClampNeg))), some (.int (x11 + 1))] [] (nh_wa σ 18 x11.toNatClampNeg (if x5 < 0 then σ.2.1 18 x11.toNatClampNeg else (if σ.2.1 18 x11.toNatClampNeg < 0 then x5 else (if σ.2.1 18 x11.toNatClampNeg ≤ x5 then σ.2.1 18 x11.toNatClampNeg else x5)))) Q))))) : nh_E kX9_spares 100 [some (.ref 0), none, none, some (.int x3), some (.int x4), some (.int x5), some (.int x6), some (.int x7), some (.int x8), some (.int x9), some (.int x10), some (.int x11)] [] σ Q := by
  refine nE_iload dX9_spares_100 rfl ?_
  refine nE_aload_n dX9_spares_102 rfl rfl ?_
  refine nE_getC fl_X9_35 sR_0 rfl dX9_spares_103 ?_
  refine nE_iconst (v := 1) dX9_spares_106 (by decide) ?_
  refine nG_iald (j := 1) sR_9 (by decide) dX9_spares_107 ⟨(nh_vi (by decide)), ?_⟩
  refine nE_icmp_ge (tgt := 185) dX9_spares_108 (by decide) ⟨fun c1 => ?_, fun c1 => ?_⟩
  · have h := h.1 c1
    refine nE_iload dX9_spares_185 rfl ?_
    refine nE_iload_n dX9_spares_187 rfl rfl ?_
    refine nE_icmp_gt (tgt := 242) dX9_spares_188 (by decide) ⟨fun c2 => ?_, fun c2 => ?_⟩
    · have h := h.1 c2
      refine nE_iinc (v := x9 + 1) dX9_spares_242 rfl rfl (by decide) rfl ?_
      refine nE_goto (tgt := 81) dX9_spares_245 (by decide) ?_
      refine nE_weak 10 ?_
      refine nE_weak 11 ?_
      exact h
    · have h := h.2 c2
      refine nE_aload_n dX9_spares_191 rfl rfl ?_
      refine nE_aload_n dX9_spares_192 rfl rfl ?_
      refine nE_callV (As := []) yf_X9_allParts ⟨by decide, by decide⟩ rfl rfl sR_0 rfl vl_X9_236 dX9_spares_193 rfl rfl (Nat.le_of_ble_eq_true rfl) (Nat.le_of_ble_eq_true rfl) (p_X9_allParts ?_)
      refine nE_callV (As := [.int ((1 <<< ((σ.2.1 9 1) &&& 31)) - 1)]) yf_X9_putIn ⟨by decide, by decide⟩ rfl rfl sR_0 rfl vl_X9_239 dX9_spares_196 rfl rfl (Nat.le_of_ble_eq_true rfl) (Nat.le_of_ble_eq_true rfl) (nE_mono (fun z5 τ3 h => ?_) h)
      obtain ⟨r4, rfl, h⟩ := h
      refine nE_callS (As := [.int r4]) yf_X9_held ⟨by decide, by decide⟩ rfl sl_X9_256 dX9_spares_199 rfl rfl (Nat.le_of_ble_eq_true rfl) (Nat.le_of_ble_eq_true rfl) (p_X9_held _ ?_)
      refine nE_istore dX9_spares_202 rfl (by decide) ?_
      refine nE_iload dX9_spares_204 rfl ?_
      refine nE_if_lt (tgt := 230) dX9_spares_206 (by decide) ⟨fun c6 => ?_, fun c6 => ?_⟩
      · have h := h.1 c6
        refine nE_iload dX9_spares_230 rfl ?_
        refine nE_istore dX9_spares_232 rfl (by decide) ?_
        refine nE_iload dX9_spares_234 rfl ?_
        refine nE_istore dX9_spares_236 rfl (by decide) ?_
        refine nE_iload dX9_spares_238 rfl ?_
        refine nE_istore dX9_spares_240 rfl (by decide) ?_
        refine nE_iinc (v := x9 + 1) dX9_spares_242 rfl rfl (by decide) rfl ?_
        refine nE_goto (tgt := 81) dX9_spares_245 (by decide) ?_
        refine nE_weak 10 ?_
        refine nE_weak 11 ?_
        exact h
      · have h := h.2 c6
        refine nE_iload dX9_spares_209 rfl ?_
        refine nE_iload dX9_spares_211 rfl ?_
        refine nE_icmp_lt (tgt := 230) dX9_spares_213 (by decide) ⟨fun c7 => ?_, fun c7 => ?_⟩
        · have h := h.1 c7
          refine nE_iload dX9_spares_230 rfl ?_
          refine nE_istore dX9_spares_232 rfl (by decide) ?_
          refine nE_iload dX9_spares_234 rfl ?_
          refine nE_istore dX9_spares_236 rfl (by decide) ?_
          refine nE_iload dX9_spares_238 rfl ?_
          refine nE_istore dX9_spares_240 rfl (by decide) ?_
          refine nE_iinc (v := x9 + 1) dX9_spares_242 rfl rfl (by decide) rfl ?_
          refine nE_goto (tgt := 81) dX9_spares_245 (by decide) ?_
          refine nE_weak 10 ?_
          refine nE_weak 11 ?_
          exact h
        · have h := h.2 c7
          refine nE_iload dX9_spares_216 rfl ?_
          refine nE_iload dX9_spares_218 rfl ?_
          refine nE_icmp_ne (tgt := 242) dX9_spares_220 (by decide) ⟨fun c8 => ?_, fun c8 => ?_⟩
          · have h := h.1 c8
            refine nE_iinc (v := x9 + 1) dX9_spares_242 rfl rfl (by decide) rfl ?_
            refine nE_goto (tgt := 81) dX9_spares_245 (by decide) ?_
            refine nE_weak 10 ?_
            refine nE_weak 11 ?_
            exact h
          · have h := h.2 c8
            refine nE_iload dX9_spares_223 rfl ?_
            refine nE_iload dX9_spares_225 rfl ?_
            refine nE_icmp_ge (tgt := 242) dX9_spares_227 (by decide) ⟨fun c9 => ?_, fun c9 => ?_⟩
            · have h := h.1 c9
              refine nE_iinc (v := x9 + 1) dX9_spares_242 rfl rfl (by decide) rfl ?_
              refine nE_goto (tgt := 81) dX9_spares_245 (by decide) ?_
              refine nE_weak 10 ?_
              refine nE_weak 11 ?_
              exact h
            · have h := h.2 c9
              refine nE_iload dX9_spares_230 rfl ?_
              refine nE_istore dX9_spares_232 rfl (by decide) ?_
              refine nE_iload dX9_spares_234 rfl ?_
              refine nE_istore dX9_spares_236 rfl (by decide) ?_
              refine nE_iload dX9_spares_238 rfl ?_
              refine nE_istore dX9_spares_240 rfl (by decide) ?_
              refine nE_iinc (v := x9 + 1) dX9_spares_242 rfl rfl (by decide) rfl ?_
              refine nE_goto (tgt := 81) dX9_spares_245 (by decide) ?_
              refine nE_weak 10 ?_
              refine nE_weak 11 ?_
              exact h
  · have h := h.2 c1
    refine nE_iload dX9_spares_111 rfl ?_
    refine nE_iload dX9_spares_113 rfl ?_
    refine nE_callS (As := [.int x9, .int x11]) yf_X9_has ⟨by decide, by decide⟩ rfl sl_X9_146 dX9_spares_115 rfl rfl (Nat.le_of_ble_eq_true rfl) (Nat.le_of_ble_eq_true rfl) (p_X9_has _ _ ?_)
    refine nE_ifb_eq (tgt := 179) dX9_spares_118 (by decide) ⟨fun c10 => ?_, fun c10 => ?_⟩
    · have h := h.1 c10
      refine nE_iinc (v := x11 + 1) dX9_spares_179 rfl rfl (by decide) rfl ?_
      refine nE_goto (tgt := 100) dX9_spares_182 (by decide) ?_
      exact h
    · have h := h.2 c10
      refine nE_iload dX9_spares_121 rfl ?_
      refine nE_aload_n dX9_spares_123 rfl rfl ?_
      refine nE_getC fl_X9_44 sR_0 rfl dX9_spares_124 ?_
      refine nE_iload dX9_spares_127 rfl ?_
      obtain ⟨g11, h⟩ := h
      refine nG_iald (j := x11.toNatClampNeg) sR_12 rfl dX9_spares_129 ⟨g11, ?_⟩
      refine nE_iadd dX9_spares_130 ?_
      refine nE_istore dX9_spares_131 rfl (by decide) ?_
      refine nE_aload_n dX9_spares_133 rfl rfl ?_
      refine nE_getC fl_X9_66 sR_0 rfl dX9_spares_134 ?_
      refine nE_iload dX9_spares_137 rfl ?_
      refine nE_iload dX9_spares_139 rfl ?_
      have j12 : nh_E kX9_spares 178 [some (.ref 0), none, none, some (.int x3), some (.int x4), some (.int x5), some (.int x6), some (.int x7), some (.int x8), some (.int x9), some (.int (x10 + (σ.2.1 12 x11.toNatClampNeg))), some (.int x11)] [.int (if x5 < 0 then σ.2.1 18 x11.toNatClampNeg else (if σ.2.1 18 x11.toNatClampNeg < 0 then x5 else (if σ.2.1 18 x11.toNatClampNeg ≤ x5 then σ.2.1 18 x11.toNatClampNeg else x5))), .int x11, .ref 18] σ Q := by
        refine nG_iast (j := x11.toNatClampNeg) sR_18 rfl dX9_spares_178 ⟨g11, ?_⟩
        refine nE_iinc (v := x11 + 1) dX9_spares_179 rfl rfl (by decide) rfl ?_
        refine nE_goto (tgt := 100) dX9_spares_182 (by decide) ?_
        exact h
      refine nE_if_lt (tgt := 171) dX9_spares_141 (by decide) ⟨fun c13 => ?_, fun c13 => ?_⟩
      · skip
        have f14 : (x5 < 0) = True := eq_true c13
        refine nE_aload_n dX9_spares_171 rfl rfl ?_
        refine nE_getC fl_X9_66 sR_0 rfl dX9_spares_172 ?_
        refine nE_iload dX9_spares_175 rfl ?_
        refine nG_iald (j := x11.toNatClampNeg) sR_18 rfl dX9_spares_177 ⟨g11, ?_⟩
        exact nh_topi (show ((if x5 < 0 then σ.2.1 18 x11.toNatClampNeg else (if σ.2.1 18 x11.toNatClampNeg < 0 then x5 else (if σ.2.1 18 x11.toNatClampNeg ≤ x5 then σ.2.1 18 x11.toNatClampNeg else x5))) : Int32) = σ.2.1 18 x11.toNatClampNeg from by simp only [if_true, if_false, not_true_eq_false, not_false_eq_true, true_and, and_true, false_and, and_false, true_or, or_true, false_or, or_false, if_pos, if_neg, ite_true, ite_false, f14]) j12
      · skip
        have f15 : (x5 < 0) = False := eq_false c13
        refine nE_aload_n dX9_spares_144 rfl rfl ?_
        refine nE_getC fl_X9_66 sR_0 rfl dX9_spares_145 ?_
        refine nE_iload dX9_spares_148 rfl ?_
        refine nG_iald (j := x11.toNatClampNeg) sR_18 rfl dX9_spares_150 ⟨g11, ?_⟩
        refine nE_if_lt (tgt := 166) dX9_spares_151 (by decide) ⟨fun c16 => ?_, fun c16 => ?_⟩
        · skip
          have f17 : (σ.2.1 18 x11.toNatClampNeg < 0) = True := eq_true c16
          refine nE_iload dX9_spares_166 rfl ?_
          refine nE_goto (tgt := 178) dX9_spares_168 (by decide) ?_
          exact nh_topi (show ((if x5 < 0 then σ.2.1 18 x11.toNatClampNeg else (if σ.2.1 18 x11.toNatClampNeg < 0 then x5 else (if σ.2.1 18 x11.toNatClampNeg ≤ x5 then σ.2.1 18 x11.toNatClampNeg else x5))) : Int32) = x5 from by simp only [if_true, if_false, not_true_eq_false, not_false_eq_true, true_and, and_true, false_and, and_false, true_or, or_true, false_or, or_false, if_pos, if_neg, ite_true, ite_false, f15, f17]) j12
        · skip
          have f18 : (σ.2.1 18 x11.toNatClampNeg < 0) = False := eq_false c16
          refine nE_iload dX9_spares_154 rfl ?_
          refine nE_aload_n dX9_spares_156 rfl rfl ?_
          refine nE_getC fl_X9_66 sR_0 rfl dX9_spares_157 ?_
          refine nE_iload dX9_spares_160 rfl ?_
          refine nG_iald (j := x11.toNatClampNeg) sR_18 rfl dX9_spares_162 ⟨g11, ?_⟩
          refine nE_icmp_ge (tgt := 171) dX9_spares_163 (by decide) ⟨fun c19 => ?_, fun c19 => ?_⟩
          · skip
            have f20 : (σ.2.1 18 x11.toNatClampNeg ≤ x5) = True := eq_true c19
            refine nE_aload_n dX9_spares_171 rfl rfl ?_
            refine nE_getC fl_X9_66 sR_0 rfl dX9_spares_172 ?_
            refine nE_iload dX9_spares_175 rfl ?_
            refine nG_iald (j := x11.toNatClampNeg) sR_18 rfl dX9_spares_177 ⟨g11, ?_⟩
            exact nh_topi (show ((if x5 < 0 then σ.2.1 18 x11.toNatClampNeg else (if σ.2.1 18 x11.toNatClampNeg < 0 then x5 else (if σ.2.1 18 x11.toNatClampNeg ≤ x5 then σ.2.1 18 x11.toNatClampNeg else x5))) : Int32) = σ.2.1 18 x11.toNatClampNeg from by simp only [if_true, if_false, not_true_eq_false, not_false_eq_true, true_and, and_true, false_and, and_false, true_or, or_true, false_or, or_false, if_pos, if_neg, ite_true, ite_false, f15, f18, f20]) j12
          · skip
            have f21 : (σ.2.1 18 x11.toNatClampNeg ≤ x5) = False := eq_false c19
            refine nE_iload dX9_spares_166 rfl ?_
            refine nE_goto (tgt := 178) dX9_spares_168 (by decide) ?_
            exact nh_topi (show ((if x5 < 0 then σ.2.1 18 x11.toNatClampNeg else (if σ.2.1 18 x11.toNatClampNeg < 0 then x5 else (if σ.2.1 18 x11.toNatClampNeg ≤ x5 then σ.2.1 18 x11.toNatClampNeg else x5))) : Int32) = x5 from by simp only [if_true, if_false, not_true_eq_false, not_false_eq_true, true_and, and_true, false_and, and_false, true_or, or_true, false_or, or_false, if_pos, if_neg, ite_true, ite_false, f15, f18, f21]) j12
set_option maxRecDepth 20000 in
theorem sg_X9_endAt_0 (x1 : Int32) (x2 : Int32) (x3 : Int32) {σ : nh_S} {Q : Option Value → nh_S → Prop} (h : nh_E kX9_burn 0 [some (.ref 0), some (.int x1), some (.int x2), some (.int (σ.2.1 1 24)), none, none, none, none] [] σ (nh_qv fun τ1 => nh_E kX9_endAt 16 [some (.ref 0), none, none, some (.int x3), some (.int 0)] [] τ1 Q)) : nh_E kX9_endAt 0 [some (.ref 0), some (.int x1), some (.int x2), some (.int x3), none] [] σ Q := by
  refine nE_aload_n dX9_endAt_0 rfl rfl ?_
  refine nE_iload_n dX9_endAt_1 rfl rfl ?_
  refine nE_iload_n dX9_endAt_2 rfl rfl ?_
  refine nE_aload_n dX9_endAt_3 rfl rfl ?_
  refine nE_getC fl_X9_7 sR_0 rfl dX9_endAt_4 ?_
  refine nE_bipush (v := 24) dX9_endAt_7 (by decide) ?_
  refine nG_iald (j := 24) sR_1 (by decide) dX9_endAt_9 ⟨(nh_vi (by decide)), ?_⟩
  refine nE_callV (As := [.int x1, .int x2, .int (σ.2.1 1 24)]) yf_X9_burn ⟨by decide, by decide⟩ rfl rfl sR_0 rfl vl_X9_229 dX9_endAt_10 rfl rfl (Nat.le_of_ble_eq_true rfl) (Nat.le_of_ble_eq_true rfl) (nE_mono (fun z3 τ1 h => ?_) h)
  obtain ⟨rfl, h⟩ := h
  refine nE_iconst (v := 0) dX9_endAt_13 (by decide) ?_
  refine nE_istore dX9_endAt_14 rfl (by decide) ?_
  refine nE_weak 1 ?_
  refine nE_weak 2 ?_
  exact h
set_option maxRecDepth 20000 in
theorem sg_X9_endAt_16 (x3 : Int32) (x4 : Int32) {σ : nh_S} {Q : Option Value → nh_S → Prop} (h : (σ.2.1 9 1 ≤ x4 → (nh_E kX9_canBeIn 0 [some (.ref 0), some (.int x3), none, none] [] σ (nh_qi fun r3 τ2 => nh_E kX9_putIn 0 [some (.ref 0), some (.int r3), none, none, none] [] τ2 (nh_qi fun r6 τ5 => Q (some (.int r6)) τ5)))) ∧ (¬ (σ.2.1 9 1 ≤ x4) → ((vp_in x4 78) ∧ (vp_in (σ.2.1 1 x4.toNatClampNeg) 9) ∧ (vp_in x4 12) ∧ nh_E kX9_endAt 16 [some (.ref 0), none, none, some (.int x3), some (.int (x4 + 1))] [] (nh_wa σ 18 x4.toNatClampNeg (if 0 ≤ σ.2.1 16 ((σ.2.1 1 x4.toNatClampNeg).toNatClampNeg) then σ.2.1 16 ((σ.2.1 1 x4.toNatClampNeg).toNatClampNeg) else 500)) Q))) : nh_E kX9_endAt 16 [some (.ref 0), none, none, some (.int x3), some (.int x4)] [] σ Q := by
  refine nE_iload dX9_endAt_16 rfl ?_
  refine nE_aload_n dX9_endAt_18 rfl rfl ?_
  refine nE_getC fl_X9_35 sR_0 rfl dX9_endAt_19 ?_
  refine nE_iconst (v := 1) dX9_endAt_22 (by decide) ?_
  refine nG_iald (j := 1) sR_9 (by decide) dX9_endAt_23 ⟨(nh_vi (by decide)), ?_⟩
  refine nE_icmp_ge (tgt := 55) dX9_endAt_24 (by decide) ⟨fun c1 => ?_, fun c1 => ?_⟩
  · have h := h.1 c1
    refine nE_aload_n dX9_endAt_55 rfl rfl ?_
    refine nE_aload_n dX9_endAt_56 rfl rfl ?_
    refine nE_iload_n dX9_endAt_57 rfl rfl ?_
    refine nE_callV (As := [.int x3]) yf_X9_canBeIn ⟨by decide, by decide⟩ rfl rfl sR_0 rfl vl_X9_294 dX9_endAt_58 rfl rfl (Nat.le_of_ble_eq_true rfl) (Nat.le_of_ble_eq_true rfl) (nE_mono (fun z4 τ2 h => ?_) h)
    obtain ⟨r3, rfl, h⟩ := h
    refine nE_callV (As := [.int r3]) yf_X9_putIn ⟨by decide, by decide⟩ rfl rfl sR_0 rfl vl_X9_239 dX9_endAt_61 rfl rfl (Nat.le_of_ble_eq_true rfl) (Nat.le_of_ble_eq_true rfl) (nE_mono (fun z7 τ5 h => ?_) h)
    obtain ⟨r6, rfl, h⟩ := h
    exact nE_iret dX9_endAt_64 rfl h
  · have h := h.2 c1
    refine nE_aload_n dX9_endAt_27 rfl rfl ?_
    refine nE_getC fl_X9_66 sR_0 rfl dX9_endAt_28 ?_
    refine nE_iload dX9_endAt_31 rfl ?_
    refine nE_aload_n dX9_endAt_33 rfl rfl ?_
    refine nE_getC fl_X9_60 sR_0 rfl dX9_endAt_34 ?_
    refine nE_aload_n dX9_endAt_37 rfl rfl ?_
    refine nE_getC fl_X9_7 sR_0 rfl dX9_endAt_38 ?_
    refine nE_iload dX9_endAt_41 rfl ?_
    obtain ⟨g8, h⟩ := h
    refine nG_iald (j := x4.toNatClampNeg) sR_1 rfl dX9_endAt_43 ⟨g8, ?_⟩
    obtain ⟨g9, h⟩ := h
    refine nG_iald (j := (σ.2.1 1 x4.toNatClampNeg).toNatClampNeg) sR_16 rfl dX9_endAt_44 ⟨g9, ?_⟩
    refine nE_callS (As := [.int (σ.2.1 16 ((σ.2.1 1 x4.toNatClampNeg).toNatClampNeg))]) yf_X9_held ⟨by decide, by decide⟩ rfl sl_X9_256 dX9_endAt_45 rfl rfl (Nat.le_of_ble_eq_true rfl) (Nat.le_of_ble_eq_true rfl) (p_X9_held _ ?_)
    obtain ⟨g10, h⟩ := h
    refine nG_iast (j := x4.toNatClampNeg) sR_18 rfl dX9_endAt_48 ⟨g10, ?_⟩
    refine nE_iinc (v := x4 + 1) dX9_endAt_49 rfl rfl (by decide) rfl ?_
    refine nE_goto (tgt := 16) dX9_endAt_52 (by decide) ?_
    exact h
set_option maxRecDepth 20000 in
theorem sg_X9_two_0 (x1 : Int32) (x2 : Int32) (x3 : Int32) (x4 : Int32) {σ : nh_S} {Q : Option Value → nh_S → Prop} (h : (¬ (¬ (x1 < 0) ∧ ¬ ((σ.2.1 9 0) - 1 < x1)) → (Q (some (.int (-1000001))) σ)) ∧ (¬ (x1 < 0) ∧ ¬ ((σ.2.1 9 0) - 1 < x1) → ((¬ (¬ (x2 < 0) ∧ ¬ ((σ.2.1 9 0) - 1 < x2)) → (Q (some (.int (-1000001))) σ)) ∧ (¬ (x2 < 0) ∧ ¬ ((σ.2.1 9 0) - 1 < x2) → ((¬ (x3 < 0) ∧ ¬ ((σ.2.1 9 0) - 1 < x3) → ((¬ (x4 < 0) ∧ ¬ (9999 < x4) → (nh_E kX9_two 49 [some (.ref 0), some (.int x1), some (.int x2), some (.int x3), some (.int x4), some (.int (-1)), some (.int 0), none, none, none, none] [] σ Q)) ∧ (¬ (¬ (x4 < 0) ∧ ¬ (9999 < x4)) → (Q (some (.int (-1000002))) σ)))) ∧ (¬ (¬ (x3 < 0) ∧ ¬ ((σ.2.1 9 0) - 1 < x3)) → (Q (some (.int (-1000001))) σ))))))) : nh_E kX9_two 0 [some (.ref 0), some (.int x1), some (.int x2), some (.int x3), some (.int x4), none, none, none, none, none, none] [] σ Q := by
  refine nE_aload_n dX9_two_0 rfl rfl ?_
  refine nE_iload_n dX9_two_1 rfl rfl ?_
  refine nE_callV (As := [.int x1]) yf_X9_isHouse ⟨by decide, by decide⟩ rfl rfl sR_0 rfl vl_X9_193 dX9_two_2 rfl rfl (Nat.le_of_ble_eq_true rfl) (Nat.le_of_ble_eq_true rfl) (p_X9_isHouse _ ?_)
  refine nE_ifb_eq (tgt := 24) dX9_two_5 (by decide) ⟨fun c1 => ?_, fun c1 => ?_⟩
  · have h := h.1 c1
    refine nE_ldc kc_X9_197 dX9_two_24 ?_
    exact nE_iret dX9_two_26 rfl h
  · have h := h.2 c1
    refine nE_aload_n dX9_two_8 rfl rfl ?_
    refine nE_iload_n dX9_two_9 rfl rfl ?_
    refine nE_callV (As := [.int x2]) yf_X9_isHouse ⟨by decide, by decide⟩ rfl rfl sR_0 rfl vl_X9_193 dX9_two_10 rfl rfl (Nat.le_of_ble_eq_true rfl) (Nat.le_of_ble_eq_true rfl) (p_X9_isHouse _ ?_)
    refine nE_ifb_eq (tgt := 24) dX9_two_13 (by decide) ⟨fun c2 => ?_, fun c2 => ?_⟩
    · have h := h.1 c2
      refine nE_ldc kc_X9_197 dX9_two_24 ?_
      exact nE_iret dX9_two_26 rfl h
    · have h := h.2 c2
      refine nE_aload_n dX9_two_16 rfl rfl ?_
      refine nE_iload_n dX9_two_17 rfl rfl ?_
      refine nE_callV (As := [.int x3]) yf_X9_isHouse ⟨by decide, by decide⟩ rfl rfl sR_0 rfl vl_X9_193 dX9_two_18 rfl rfl (Nat.le_of_ble_eq_true rfl) (Nat.le_of_ble_eq_true rfl) (p_X9_isHouse _ ?_)
      refine nE_ifb_ne (tgt := 27) dX9_two_21 (by decide) ⟨fun c3 => ?_, fun c3 => ?_⟩
      · have h := h.1 c3
        refine nE_iload dX9_two_27 rfl ?_
        refine nE_i2l dX9_two_29 ?_
        refine nE_lconst (v := 0) dX9_two_30 (by decide) ?_
        refine nE_ldc2 kc_X9_303 dX9_two_31 ?_
        refine nE_callS (As := [.long x4.toInt64, .long 0, .long 9999]) yf_X9_in ⟨by decide, by decide⟩ rfl sl_X9_95 dX9_two_34 rfl rfl (Nat.le_of_ble_eq_true rfl) (Nat.le_of_ble_eq_true rfl) (p_X9_in x4 0 9999 (by decide) (by decide) ?_)
        refine nE_ifb_ne (tgt := 43) dX9_two_37 (by decide) ⟨fun c4 => ?_, fun c4 => ?_⟩
        · have h := h.1 c4
          refine nE_iconst (v := (-1)) dX9_two_43 (by decide) ?_
          refine nE_istore dX9_two_44 rfl (by decide) ?_
          refine nE_iconst (v := 0) dX9_two_46 (by decide) ?_
          refine nE_istore dX9_two_47 rfl (by decide) ?_
          exact h
        · have h := h.2 c4
          refine nE_ldc kc_X9_99 dX9_two_40 ?_
          exact nE_iret dX9_two_42 rfl h
      · have h := h.2 c3
        refine nE_ldc kc_X9_197 dX9_two_24 ?_
        exact nE_iret dX9_two_26 rfl h
set_option maxRecDepth 20000 in
theorem sg_X9_two_49 (x1 : Int32) (x2 : Int32) (x3 : Int32) (x4 : Int32) (x5 : Int32) (x6 : Int32) {σ : nh_S} {Q : Option Value → nh_S → Prop} (h : ((1 <<< ((σ.2.1 9 1) &&& 31)) - 1 < x6 → (Q (some (.int x5)) σ)) ∧ (¬ ((1 <<< ((σ.2.1 9 1) &&& 31)) - 1 < x6) → (nh_E kX9_reachOf 0 [some (.ref 0), some (.int x6), none, none, none] [] σ (nh_qi fun r3 τ2 => (r3 < x4 → (nh_E kX9_two 49 [some (.ref 0), some (.int x1), some (.int x2), some (.int x3), some (.int x4), some (.int x5), some (.int (x6 + 1)), none, none, none, none] [] τ2 Q)) ∧ (¬ (r3 < x4) → (nh_E kX9_reachOf 0 [some (.ref 0), some (.int (((1 <<< ((σ.2.1 9 1) &&& 31)) - 1) &&& (x6 ^^^ (-1)))), none, none, none] [] τ2 (nh_qi fun r7 τ6 => (r7 < x4 → (nh_E kX9_two 49 [some (.ref 0), some (.int x1), some (.int x2), some (.int x3), some (.int x4), some (.int x5), some (.int (x6 + 1)), none, none, none, none] [] τ6 Q)) ∧ (¬ (r7 < x4) → (nh_E kX9_endAt 0 [some (.ref 0), some (.int x1), some (.int x3), some (.int x6), none] [] τ6 (nh_qi fun r11 τ10 => nh_E kX9_endAt 0 [some (.ref 0), some (.int x2), some (.int x3), some (.int (((1 <<< ((σ.2.1 9 1) &&& 31)) - 1) &&& (x6 ^^^ (-1)))), none] [] τ10 (nh_qi fun r14 τ13 => nh_E kX9_two 49 [some (.ref 0), some (.int x1), some (.int x2), some (.int x3), some (.int x4), some (.int (if x5 < 0 then (if r11 ≤ r14 then r14 else r11) else (if x5 ≤ (if r11 ≤ r14 then r14 else r11) then x5 else (if r11 ≤ r14 then r14 else r11)))), some (.int (x6 + 1)), none, none, none, none] [] τ13 Q))))))))))) : nh_E kX9_two 49 [some (.ref 0), some (.int x1), some (.int x2), some (.int x3), some (.int x4), some (.int x5), some (.int x6), none, none, none, none] [] σ Q := by
  refine nE_iload dX9_two_49 rfl ?_
  refine nE_aload_n dX9_two_51 rfl rfl ?_
  refine nE_callV (As := []) yf_X9_allParts ⟨by decide, by decide⟩ rfl rfl sR_0 rfl vl_X9_236 dX9_two_52 rfl rfl (Nat.le_of_ble_eq_true rfl) (Nat.le_of_ble_eq_true rfl) (p_X9_allParts ?_)
  refine nE_icmp_gt (tgt := 154) dX9_two_55 (by decide) ⟨fun c1 => ?_, fun c1 => ?_⟩
  · have h := h.1 c1
    refine nE_iload dX9_two_154 rfl ?_
    exact nE_iret dX9_two_156 rfl h
  · have h := h.2 c1
    refine nE_aload_n dX9_two_58 rfl rfl ?_
    refine nE_callV (As := []) yf_X9_allParts ⟨by decide, by decide⟩ rfl rfl sR_0 rfl vl_X9_236 dX9_two_59 rfl rfl (Nat.le_of_ble_eq_true rfl) (Nat.le_of_ble_eq_true rfl) (p_X9_allParts ?_)
    refine nE_iload dX9_two_62 rfl ?_
    refine nE_iconst (v := (-1)) dX9_two_64 (by decide) ?_
    refine nE_ixor dX9_two_65 ?_
    refine nE_iand dX9_two_66 ?_
    refine nE_istore dX9_two_67 rfl (by decide) ?_
    refine nE_aload_n dX9_two_69 rfl rfl ?_
    refine nE_iload dX9_two_70 rfl ?_
    refine nE_callV (As := [.int x6]) yf_X9_reachOf ⟨by decide, by decide⟩ rfl rfl sR_0 rfl vl_X9_300 dX9_two_72 rfl rfl (Nat.le_of_ble_eq_true rfl) (Nat.le_of_ble_eq_true rfl) (nE_mono (fun z4 τ2 h => ?_) h)
    obtain ⟨r3, rfl, h⟩ := h
    refine nE_iload dX9_two_75 rfl ?_
    refine nE_icmp_lt (tgt := 148) dX9_two_77 (by decide) ⟨fun c5 => ?_, fun c5 => ?_⟩
    · have h := h.1 c5
      refine nE_iinc (v := x6 + 1) dX9_two_148 rfl rfl (by decide) rfl ?_
      refine nE_goto (tgt := 49) dX9_two_151 (by decide) ?_
      refine nE_weak 7 ?_
      exact h
    · have h := h.2 c5
      refine nE_aload_n dX9_two_80 rfl rfl ?_
      refine nE_iload dX9_two_81 rfl ?_
      refine nE_callV (As := [.int (((1 <<< ((σ.2.1 9 1) &&& 31)) - 1) &&& (x6 ^^^ (-1)))]) yf_X9_reachOf ⟨by decide, by decide⟩ rfl rfl sR_0 rfl vl_X9_300 dX9_two_83 rfl rfl (Nat.le_of_ble_eq_true rfl) (Nat.le_of_ble_eq_true rfl) (nE_mono (fun z8 τ6 h => ?_) h)
      obtain ⟨r7, rfl, h⟩ := h
      refine nE_iload dX9_two_86 rfl ?_
      refine nE_icmp_lt (tgt := 148) dX9_two_88 (by decide) ⟨fun c9 => ?_, fun c9 => ?_⟩
      · have h := h.1 c9
        refine nE_iinc (v := x6 + 1) dX9_two_148 rfl rfl (by decide) rfl ?_
        refine nE_goto (tgt := 49) dX9_two_151 (by decide) ?_
        refine nE_weak 7 ?_
        exact h
      · have h := h.2 c9
        refine nE_aload_n dX9_two_91 rfl rfl ?_
        refine nE_iload_n dX9_two_92 rfl rfl ?_
        refine nE_iload_n dX9_two_93 rfl rfl ?_
        refine nE_iload dX9_two_94 rfl ?_
        refine nE_callV (As := [.int x1, .int x3, .int x6]) yf_X9_endAt ⟨by decide, by decide⟩ rfl rfl sR_0 rfl vl_X9_310 dX9_two_96 rfl rfl (Nat.le_of_ble_eq_true rfl) (Nat.le_of_ble_eq_true rfl) (nE_mono (fun z12 τ10 h => ?_) h)
        obtain ⟨r11, rfl, h⟩ := h
        refine nE_istore dX9_two_99 rfl (by decide) ?_
        refine nE_aload_n dX9_two_101 rfl rfl ?_
        refine nE_iload_n dX9_two_102 rfl rfl ?_
        refine nE_iload_n dX9_two_103 rfl rfl ?_
        refine nE_iload dX9_two_104 rfl ?_
        refine nE_callV (As := [.int x2, .int x3, .int (((1 <<< ((σ.2.1 9 1) &&& 31)) - 1) &&& (x6 ^^^ (-1)))]) yf_X9_endAt ⟨by decide, by decide⟩ rfl rfl sR_0 rfl vl_X9_310 dX9_two_106 rfl rfl (Nat.le_of_ble_eq_true rfl) (Nat.le_of_ble_eq_true rfl) (nE_mono (fun z15 τ13 h => ?_) h)
        obtain ⟨r14, rfl, h⟩ := h
        refine nE_istore dX9_two_109 rfl (by decide) ?_
        refine nE_iload dX9_two_111 rfl ?_
        refine nE_iload dX9_two_113 rfl ?_
        have j23 : nh_E kX9_two 125 [some (.ref 0), some (.int x1), some (.int x2), some (.int x3), some (.int x4), some (.int x5), some (.int x6), some (.int (((1 <<< ((σ.2.1 9 1) &&& 31)) - 1) &&& (x6 ^^^ (-1)))), some (.int r11), some (.int r14), none] [.int (if r11 ≤ r14 then r14 else r11)] τ13 Q := by
          refine nE_istore dX9_two_125 rfl (by decide) ?_
          refine nE_iload dX9_two_127 rfl ?_
          have j16 : nh_E kX9_two 146 [some (.ref 0), some (.int x1), some (.int x2), some (.int x3), some (.int x4), some (.int x5), some (.int x6), some (.int (((1 <<< ((σ.2.1 9 1) &&& 31)) - 1) &&& (x6 ^^^ (-1)))), some (.int r11), some (.int r14), some (.int (if r11 ≤ r14 then r14 else r11))] [.int (if x5 < 0 then (if r11 ≤ r14 then r14 else r11) else (if x5 ≤ (if r11 ≤ r14 then r14 else r11) then x5 else (if r11 ≤ r14 then r14 else r11)))] τ13 Q := by
            refine nE_istore dX9_two_146 rfl (by decide) ?_
            refine nE_iinc (v := x6 + 1) dX9_two_148 rfl rfl (by decide) rfl ?_
            refine nE_goto (tgt := 49) dX9_two_151 (by decide) ?_
            refine nE_weak 7 ?_
            refine nE_weak 8 ?_
            refine nE_weak 9 ?_
            refine nE_weak 10 ?_
            exact h
          refine nE_if_lt (tgt := 139) dX9_two_129 (by decide) ⟨fun c17 => ?_, fun c17 => ?_⟩
          · skip
            have f18 : (x5 < 0) = True := eq_true c17
            refine nE_iload dX9_two_139 rfl ?_
            refine nE_goto (tgt := 146) dX9_two_141 (by decide) ?_
            exact nh_topi (show ((if x5 < 0 then (if r11 ≤ r14 then r14 else r11) else (if x5 ≤ (if r11 ≤ r14 then r14 else r11) then x5 else (if r11 ≤ r14 then r14 else r11))) : Int32) = (if r11 ≤ r14 then r14 else r11) from by simp only [if_true, if_false, not_true_eq_false, not_false_eq_true, true_and, and_true, false_and, and_false, true_or, or_true, false_or, or_false, if_pos, if_neg, ite_true, ite_false, f18]) j16
          · skip
            have f19 : (x5 < 0) = False := eq_false c17
            refine nE_iload dX9_two_132 rfl ?_
            refine nE_iload dX9_two_134 rfl ?_
            refine nE_icmp_ge (tgt := 144) dX9_two_136 (by decide) ⟨fun c20 => ?_, fun c20 => ?_⟩
            · skip
              have f21 : (x5 ≤ (if r11 ≤ r14 then r14 else r11)) = True := eq_true c20
              refine nE_iload dX9_two_144 rfl ?_
              exact nh_topi (show ((if x5 < 0 then (if r11 ≤ r14 then r14 else r11) else (if x5 ≤ (if r11 ≤ r14 then r14 else r11) then x5 else (if r11 ≤ r14 then r14 else r11))) : Int32) = x5 from by simp only [if_true, if_false, not_true_eq_false, not_false_eq_true, true_and, and_true, false_and, and_false, true_or, or_true, false_or, or_false, if_pos, if_neg, ite_true, ite_false, f19, f21]) j16
            · skip
              have f22 : (x5 ≤ (if r11 ≤ r14 then r14 else r11)) = False := eq_false c20
              refine nE_iload dX9_two_139 rfl ?_
              refine nE_goto (tgt := 146) dX9_two_141 (by decide) ?_
              exact nh_topi (show ((if x5 < 0 then (if r11 ≤ r14 then r14 else r11) else (if x5 ≤ (if r11 ≤ r14 then r14 else r11) then x5 else (if r11 ≤ r14 then r14 else r11))) : Int32) = (if r11 ≤ r14 then r14 else r11) from by simp only [if_true, if_false, not_true_eq_false, not_false_eq_true, true_and, and_true, false_and, and_false, true_or, or_true, false_or, or_false, if_pos, if_neg, ite_true, ite_false, f19, f22]) j16
        refine nE_icmp_le (tgt := 123) dX9_two_115 (by decide) ⟨fun c24 => ?_, fun c24 => ?_⟩
        · skip
          have f25 : (r11 ≤ r14) = True := eq_true c24
          refine nE_iload dX9_two_123 rfl ?_
          exact nh_topi (show ((if r11 ≤ r14 then r14 else r11) : Int32) = r14 from by simp only [if_true, if_false, not_true_eq_false, not_false_eq_true, true_and, and_true, false_and, and_false, true_or, or_true, false_or, or_false, if_pos, if_neg, ite_true, ite_false, f25]) j23
        · skip
          have f26 : (r11 ≤ r14) = False := eq_false c24
          refine nE_iload dX9_two_118 rfl ?_
          refine nE_goto (tgt := 125) dX9_two_120 (by decide) ?_
          exact nh_topi (show ((if r11 ≤ r14 then r14 else r11) : Int32) = r11 from by simp only [if_true, if_false, not_true_eq_false, not_false_eq_true, true_and, and_true, false_and, and_false, true_or, or_true, false_or, or_false, if_pos, if_neg, ite_true, ite_false, f26]) j23
set_option maxRecDepth 20000 in
theorem sg_X9_log_0 (x1 : Int32) (x2 : Int32) {σ : nh_S} {Q : Option Value → nh_S → Prop} (h : (¬ (x1 < 0) ∧ ¬ ((σ.2.1 9 1) - 1 < x1) → ((¬ (x2 < 0) ∧ ¬ (999 < x2) → ((vp_in x1 12) ∧ nh_E kX9_ones 0 [some (.int ((σ.1 0 37) ||| (1 <<< (x1 &&& 31)))), none, none] [] (nh_wa (nh_si σ 0 37 ((σ.1 0 37) ||| (1 <<< (x1 &&& 31)))) 26 x1.toNatClampNeg x2) (nh_qi fun r5 τ4 => Q (some (.int r5)) τ4))) ∧ (¬ (¬ (x2 < 0) ∧ ¬ (999 < x2)) → (Q (some (.int (-1000002))) σ)))) ∧ (¬ (¬ (x1 < 0) ∧ ¬ ((σ.2.1 9 1) - 1 < x1)) → (Q (some (.int (-1000001))) σ))) : nh_E kX9_log 0 [some (.ref 0), some (.int x1), some (.int x2)] [] σ Q := by
  refine nE_aload_n dX9_log_0 rfl rfl ?_
  refine nE_iload_n dX9_log_1 rfl rfl ?_
  refine nE_callV (As := [.int x1]) yf_X9_isPart ⟨by decide, by decide⟩ rfl rfl sR_0 rfl vl_X9_206 dX9_log_2 rfl rfl (Nat.le_of_ble_eq_true rfl) (Nat.le_of_ble_eq_true rfl) (p_X9_isPart _ ?_)
  refine nE_ifb_ne (tgt := 11) dX9_log_5 (by decide) ⟨fun c1 => ?_, fun c1 => ?_⟩
  · have h := h.1 c1
    refine nE_iload_n dX9_log_11 rfl rfl ?_
    refine nE_i2l dX9_log_12 ?_
    refine nE_lconst (v := 0) dX9_log_13 (by decide) ?_
    refine nE_ldc2 kc_X9_287 dX9_log_14 ?_
    refine nE_callS (As := [.long x2.toInt64, .long 0, .long 999]) yf_X9_in ⟨by decide, by decide⟩ rfl sl_X9_95 dX9_log_17 rfl rfl (Nat.le_of_ble_eq_true rfl) (Nat.le_of_ble_eq_true rfl) (p_X9_in x2 0 999 (by decide) (by decide) ?_)
    refine nE_ifb_ne (tgt := 26) dX9_log_20 (by decide) ⟨fun c2 => ?_, fun c2 => ?_⟩
    · have h := h.1 c2
      refine nE_aload_n dX9_log_26 rfl rfl ?_
      refine nE_dup dX9_log_27 rfl ?_
      refine nE_getI fl_X9_179 sR_0 rfl dX9_log_28 ?_
      refine nE_iconst (v := 1) dX9_log_31 (by decide) ?_
      refine nE_iload_n dX9_log_32 rfl rfl ?_
      refine nE_ishl dX9_log_33 ?_
      refine nE_ior dX9_log_34 ?_
      refine nE_putI fl_X9_179 sR_0 rfl ⟨rfl, rfl⟩ dX9_log_35 ?_
      refine nE_aload_n dX9_log_38 rfl rfl ?_
      refine nE_getC fl_X9_90 sR_0 rfl dX9_log_39 ?_
      refine nE_iload_n dX9_log_42 rfl rfl ?_
      refine nE_iload_n dX9_log_43 rfl rfl ?_
      obtain ⟨g3, h⟩ := h
      refine nG_iast (j := x1.toNatClampNeg) sR_26 rfl dX9_log_44 ⟨g3, ?_⟩
      refine nE_aload_n dX9_log_45 rfl rfl ?_
      refine nE_getI fl_X9_179 sR_0 rfl dX9_log_46 ?_
      refine nE_callS (As := [.int ((σ.1 0 37) ||| (1 <<< (x1 &&& 31)))]) yf_X9_ones ⟨by decide, by decide⟩ rfl sl_X9_189 dX9_log_49 rfl rfl (Nat.le_of_ble_eq_true rfl) (Nat.le_of_ble_eq_true rfl) (nE_mono (fun z6 τ4 h => ?_) h)
      obtain ⟨r5, rfl, h⟩ := h
      exact nE_iret dX9_log_52 rfl h
    · have h := h.2 c2
      refine nE_ldc kc_X9_99 dX9_log_23 ?_
      exact nE_iret dX9_log_25 rfl h
  · have h := h.2 c1
    refine nE_ldc kc_X9_197 dX9_log_8 ?_
    exact nE_iret dX9_log_10 rfl h
set_option maxRecDepth 20000 in
theorem sg_X9_clear_0  {σ : nh_S} {Q : Option Value → nh_S → Prop} (h : nh_E kX9_ones 0 [some (.int (σ.1 0 37)), none, none] [] σ (nh_qi fun r2 τ1 => Q (some (.int r2)) (nh_si τ1 0 37 0))) : nh_E kX9_clear 0 [some (.ref 0), none] [] σ Q := by
  refine nE_aload_n dX9_clear_0 rfl rfl ?_
  refine nE_getI fl_X9_179 sR_0 rfl dX9_clear_1 ?_
  refine nE_callS (As := [.int (σ.1 0 37)]) yf_X9_ones ⟨by decide, by decide⟩ rfl sl_X9_189 dX9_clear_4 rfl rfl (Nat.le_of_ble_eq_true rfl) (Nat.le_of_ble_eq_true rfl) (nE_mono (fun z3 τ1 h => ?_) h)
  obtain ⟨r2, rfl, h⟩ := h
  refine nE_istore_n dX9_clear_7 rfl rfl (by decide) ?_
  refine nE_aload_n dX9_clear_8 rfl rfl ?_
  refine nE_iconst (v := 0) dX9_clear_9 (by decide) ?_
  refine nE_putI fl_X9_179 sR_0 rfl ⟨rfl, rfl⟩ dX9_clear_10 ?_
  refine nE_iload_n dX9_clear_13 rfl rfl ?_
  exact nE_iret dX9_clear_14 rfl h
set_option maxRecDepth 20000 in
theorem sg_X9_lateOf_0 (x1 : Int32) {σ : nh_S} {Q : Option Value → nh_S → Prop} (h : (((nh_hs (σ.1 0 37) x1) → (vp_in x1 12))) ∧ Q (some (.int (if nh_hs (σ.1 0 37) x1 then (if σ.2.1 18 x1.toNatClampNeg < 0 then 0 else (if σ.2.1 26 x1.toNatClampNeg ≤ σ.2.1 18 x1.toNatClampNeg then 0 else (σ.2.1 26 x1.toNatClampNeg) - (σ.2.1 18 x1.toNatClampNeg))) else 0))) σ) : nh_E kX9_lateOf 0 [some (.ref 0), some (.int x1)] [] σ Q := by
  refine nE_aload_n dX9_lateOf_0 rfl rfl ?_
  refine nE_getI fl_X9_179 sR_0 rfl dX9_lateOf_1 ?_
  refine nE_iload_n dX9_lateOf_4 rfl rfl ?_
  refine nE_callS (As := [.int (σ.1 0 37), .int x1]) yf_X9_has ⟨by decide, by decide⟩ rfl sl_X9_146 dX9_lateOf_5 rfl rfl (Nat.le_of_ble_eq_true rfl) (Nat.le_of_ble_eq_true rfl) (p_X9_has _ _ ?_)
  obtain ⟨u2, h⟩ := h
  have j3 : nh_E kX9_lateOf 52 [some (.ref 0), some (.int x1)] [.int (if nh_hs (σ.1 0 37) x1 then (if σ.2.1 18 x1.toNatClampNeg < 0 then 0 else (if σ.2.1 26 x1.toNatClampNeg ≤ σ.2.1 18 x1.toNatClampNeg then 0 else (σ.2.1 26 x1.toNatClampNeg) - (σ.2.1 18 x1.toNatClampNeg))) else 0)] σ Q := by
    exact nE_iret dX9_lateOf_52 rfl h
  have u4 := u2
  refine nE_ifb_eq (tgt := 51) dX9_lateOf_8 (by decide) ⟨fun c5 => ?_, fun c5 => ?_⟩
  · skip
    have f6 : (nh_hs (σ.1 0 37) x1) = False := eq_false c5
    refine nE_iconst (v := 0) dX9_lateOf_51 (by decide) ?_
    exact nh_topi (show ((if nh_hs (σ.1 0 37) x1 then (if σ.2.1 18 x1.toNatClampNeg < 0 then 0 else (if σ.2.1 26 x1.toNatClampNeg ≤ σ.2.1 18 x1.toNatClampNeg then 0 else (σ.2.1 26 x1.toNatClampNeg) - (σ.2.1 18 x1.toNatClampNeg))) else 0) : Int32) = 0 from by simp only [if_true, if_false, not_true_eq_false, not_false_eq_true, true_and, and_true, false_and, and_false, true_or, or_true, false_or, or_false, if_pos, if_neg, ite_true, ite_false, f6]) j3
  · skip
    have f7 : (nh_hs (σ.1 0 37) x1) = True := eq_true c5
    have g1 := (u4 c5)
    refine nE_aload_n dX9_lateOf_11 rfl rfl ?_
    refine nE_getC fl_X9_66 sR_0 rfl dX9_lateOf_12 ?_
    refine nE_iload_n dX9_lateOf_15 rfl rfl ?_
    refine nG_iald (j := x1.toNatClampNeg) sR_18 rfl dX9_lateOf_16 ⟨g1, ?_⟩
    refine nE_if_lt (tgt := 51) dX9_lateOf_17 (by decide) ⟨fun c8 => ?_, fun c8 => ?_⟩
    · skip
      have f9 : (σ.2.1 18 x1.toNatClampNeg < 0) = True := eq_true c8
      refine nE_iconst (v := 0) dX9_lateOf_51 (by decide) ?_
      exact nh_topi (show ((if nh_hs (σ.1 0 37) x1 then (if σ.2.1 18 x1.toNatClampNeg < 0 then 0 else (if σ.2.1 26 x1.toNatClampNeg ≤ σ.2.1 18 x1.toNatClampNeg then 0 else (σ.2.1 26 x1.toNatClampNeg) - (σ.2.1 18 x1.toNatClampNeg))) else 0) : Int32) = 0 from by simp only [if_true, if_false, not_true_eq_false, not_false_eq_true, true_and, and_true, false_and, and_false, true_or, or_true, false_or, or_false, if_pos, if_neg, ite_true, ite_false, f7, f9]) j3
    · skip
      have f10 : (σ.2.1 18 x1.toNatClampNeg < 0) = False := eq_false c8
      refine nE_aload_n dX9_lateOf_20 rfl rfl ?_
      refine nE_getC fl_X9_90 sR_0 rfl dX9_lateOf_21 ?_
      refine nE_iload_n dX9_lateOf_24 rfl rfl ?_
      refine nG_iald (j := x1.toNatClampNeg) sR_26 rfl dX9_lateOf_25 ⟨g1, ?_⟩
      refine nE_aload_n dX9_lateOf_26 rfl rfl ?_
      refine nE_getC fl_X9_66 sR_0 rfl dX9_lateOf_27 ?_
      refine nE_iload_n dX9_lateOf_30 rfl rfl ?_
      refine nG_iald (j := x1.toNatClampNeg) sR_18 rfl dX9_lateOf_31 ⟨g1, ?_⟩
      refine nE_icmp_le (tgt := 51) dX9_lateOf_32 (by decide) ⟨fun c11 => ?_, fun c11 => ?_⟩
      · skip
        have f12 : (σ.2.1 26 x1.toNatClampNeg ≤ σ.2.1 18 x1.toNatClampNeg) = True := eq_true c11
        refine nE_iconst (v := 0) dX9_lateOf_51 (by decide) ?_
        exact nh_topi (show ((if nh_hs (σ.1 0 37) x1 then (if σ.2.1 18 x1.toNatClampNeg < 0 then 0 else (if σ.2.1 26 x1.toNatClampNeg ≤ σ.2.1 18 x1.toNatClampNeg then 0 else (σ.2.1 26 x1.toNatClampNeg) - (σ.2.1 18 x1.toNatClampNeg))) else 0) : Int32) = 0 from by simp only [if_true, if_false, not_true_eq_false, not_false_eq_true, true_and, and_true, false_and, and_false, true_or, or_true, false_or, or_false, if_pos, if_neg, ite_true, ite_false, f7, f10, f12]) j3
      · skip
        have f13 : (σ.2.1 26 x1.toNatClampNeg ≤ σ.2.1 18 x1.toNatClampNeg) = False := eq_false c11
        refine nE_aload_n dX9_lateOf_35 rfl rfl ?_
        refine nE_getC fl_X9_90 sR_0 rfl dX9_lateOf_36 ?_
        refine nE_iload_n dX9_lateOf_39 rfl rfl ?_
        refine nG_iald (j := x1.toNatClampNeg) sR_26 rfl dX9_lateOf_40 ⟨g1, ?_⟩
        refine nE_aload_n dX9_lateOf_41 rfl rfl ?_
        refine nE_getC fl_X9_66 sR_0 rfl dX9_lateOf_42 ?_
        refine nE_iload_n dX9_lateOf_45 rfl rfl ?_
        refine nG_iald (j := x1.toNatClampNeg) sR_18 rfl dX9_lateOf_46 ⟨g1, ?_⟩
        refine nE_isub dX9_lateOf_47 ?_
        refine nE_goto (tgt := 52) dX9_lateOf_48 (by decide) ?_
        exact nh_topi (show ((if nh_hs (σ.1 0 37) x1 then (if σ.2.1 18 x1.toNatClampNeg < 0 then 0 else (if σ.2.1 26 x1.toNatClampNeg ≤ σ.2.1 18 x1.toNatClampNeg then 0 else (σ.2.1 26 x1.toNatClampNeg) - (σ.2.1 18 x1.toNatClampNeg))) else 0) : Int32) = (σ.2.1 26 x1.toNatClampNeg) - (σ.2.1 18 x1.toNatClampNeg) from by simp only [if_true, if_false, not_true_eq_false, not_false_eq_true, true_and, and_true, false_and, and_false, true_or, or_true, false_or, or_false, if_pos, if_neg, ite_true, ite_false, f7, f10, f13]) j3
set_option maxRecDepth 20000 in
theorem sg_X9_late_0 (x1 : Int32) (x2 : Int32) (x3 : Int32) {σ : nh_S} {Q : Option Value → nh_S → Prop} (h : (¬ (¬ (x1 < 0) ∧ ¬ ((σ.2.1 9 0) - 1 < x1)) → (Q (some (.int (-1000001))) σ)) ∧ (¬ (x1 < 0) ∧ ¬ ((σ.2.1 9 0) - 1 < x1) → ((¬ (¬ (x2 < 0) ∧ ¬ ((σ.2.1 9 0) - 1 < x2)) → (Q (some (.int (-1000001))) σ)) ∧ (¬ (x2 < 0) ∧ ¬ ((σ.2.1 9 0) - 1 < x2) → ((¬ (x3 < 0) ∧ ¬ ((σ.2.1 9 1) - 1 < x3) → (nh_E kX9_burn 0 [some (.ref 0), some (.int x1), some (.int x2), some (.int (σ.2.1 1 24)), none, none, none, none] [] σ (nh_qv fun τ4 => nh_E kX9_comeAll 0 [some (.ref 0), none] [] τ4 (nh_qv fun τ7 => nh_E kX9_lateOf 0 [some (.ref 0), some (.int x3)] [] τ7 (nh_qi fun r11 τ10 => Q (some (.int r11)) τ10))))) ∧ (¬ (¬ (x3 < 0) ∧ ¬ ((σ.2.1 9 1) - 1 < x3)) → (Q (some (.int (-1000001))) σ))))))) : nh_E kX9_late 0 [some (.ref 0), some (.int x1), some (.int x2), some (.int x3)] [] σ Q := by
  refine nE_aload_n dX9_late_0 rfl rfl ?_
  refine nE_iload_n dX9_late_1 rfl rfl ?_
  refine nE_callV (As := [.int x1]) yf_X9_isHouse ⟨by decide, by decide⟩ rfl rfl sR_0 rfl vl_X9_193 dX9_late_2 rfl rfl (Nat.le_of_ble_eq_true rfl) (Nat.le_of_ble_eq_true rfl) (p_X9_isHouse _ ?_)
  refine nE_ifb_eq (tgt := 24) dX9_late_5 (by decide) ⟨fun c1 => ?_, fun c1 => ?_⟩
  · have h := h.1 c1
    refine nE_ldc kc_X9_197 dX9_late_24 ?_
    exact nE_iret dX9_late_26 rfl h
  · have h := h.2 c1
    refine nE_aload_n dX9_late_8 rfl rfl ?_
    refine nE_iload_n dX9_late_9 rfl rfl ?_
    refine nE_callV (As := [.int x2]) yf_X9_isHouse ⟨by decide, by decide⟩ rfl rfl sR_0 rfl vl_X9_193 dX9_late_10 rfl rfl (Nat.le_of_ble_eq_true rfl) (Nat.le_of_ble_eq_true rfl) (p_X9_isHouse _ ?_)
    refine nE_ifb_eq (tgt := 24) dX9_late_13 (by decide) ⟨fun c2 => ?_, fun c2 => ?_⟩
    · have h := h.1 c2
      refine nE_ldc kc_X9_197 dX9_late_24 ?_
      exact nE_iret dX9_late_26 rfl h
    · have h := h.2 c2
      refine nE_aload_n dX9_late_16 rfl rfl ?_
      refine nE_iload_n dX9_late_17 rfl rfl ?_
      refine nE_callV (As := [.int x3]) yf_X9_isPart ⟨by decide, by decide⟩ rfl rfl sR_0 rfl vl_X9_206 dX9_late_18 rfl rfl (Nat.le_of_ble_eq_true rfl) (Nat.le_of_ble_eq_true rfl) (p_X9_isPart _ ?_)
      refine nE_ifb_ne (tgt := 27) dX9_late_21 (by decide) ⟨fun c3 => ?_, fun c3 => ?_⟩
      · have h := h.1 c3
        refine nE_aload_n dX9_late_27 rfl rfl ?_
        refine nE_iload_n dX9_late_28 rfl rfl ?_
        refine nE_iload_n dX9_late_29 rfl rfl ?_
        refine nE_aload_n dX9_late_30 rfl rfl ?_
        refine nE_getC fl_X9_7 sR_0 rfl dX9_late_31 ?_
        refine nE_bipush (v := 24) dX9_late_34 (by decide) ?_
        refine nG_iald (j := 24) sR_1 (by decide) dX9_late_36 ⟨(nh_vi (by decide)), ?_⟩
        refine nE_callV (As := [.int x1, .int x2, .int (σ.2.1 1 24)]) yf_X9_burn ⟨by decide, by decide⟩ rfl rfl sR_0 rfl vl_X9_229 dX9_late_37 rfl rfl (Nat.le_of_ble_eq_true rfl) (Nat.le_of_ble_eq_true rfl) (nE_mono (fun z6 τ4 h => ?_) h)
        obtain ⟨rfl, h⟩ := h
        refine nE_aload_n dX9_late_40 rfl rfl ?_
        refine nE_callV (As := []) yf_X9_comeAll ⟨by decide, by decide⟩ rfl rfl sR_0 rfl vl_X9_233 dX9_late_41 rfl rfl (Nat.le_of_ble_eq_true rfl) (Nat.le_of_ble_eq_true rfl) (nE_mono (fun z9 τ7 h => ?_) h)
        obtain ⟨rfl, h⟩ := h
        refine nE_aload_n dX9_late_44 rfl rfl ?_
        refine nE_iload_n dX9_late_45 rfl rfl ?_
        refine nE_callV (As := [.int x3]) yf_X9_lateOf ⟨by decide, by decide⟩ rfl rfl sR_0 rfl vl_X9_313 dX9_late_46 rfl rfl (Nat.le_of_ble_eq_true rfl) (Nat.le_of_ble_eq_true rfl) (nE_mono (fun z12 τ10 h => ?_) h)
        obtain ⟨r11, rfl, h⟩ := h
        exact nE_iret dX9_late_49 rfl h
      · have h := h.2 c3
        refine nE_ldc kc_X9_197 dX9_late_24 ?_
        exact nE_iret dX9_late_26 rfl h
set_option maxRecDepth 20000 in
theorem sg_X9_judge_0 (x1 : Int32) (x2 : Int32) (x3 : Int32) {σ : nh_S} {Q : Option Value → nh_S → Prop} (h : (¬ (¬ (x1 < 0) ∧ ¬ ((σ.2.1 9 0) - 1 < x1)) → (Q (some (.int (-1000001))) σ)) ∧ (¬ (x1 < 0) ∧ ¬ ((σ.2.1 9 0) - 1 < x1) → ((¬ (x2 < 0) ∧ ¬ ((σ.2.1 9 0) - 1 < x2) → ((¬ (x3 < 0) ∧ ¬ (1 < x3) → (nh_E kX9_burn 0 [some (.ref 0), some (.int x1), some (.int x2), some (.int (σ.2.1 1 24)), none, none, none, none] [] σ (nh_qv fun τ4 => nh_E kX9_comeAll 0 [some (.ref 0), none] [] τ4 (nh_qv fun τ7 => (¬ (x3 = 0) → (nh_E kX9_judge 115 [some (.ref 0), none, none, none, some (.int 0), none] [] τ7 Q)) ∧ (x3 = 0 → (nh_E kX9_judge 59 [some (.ref 0), none, none, none, some (.int (-1)), some (.int 0)] [] τ7 Q)))))) ∧ (¬ (¬ (x3 < 0) ∧ ¬ (1 < x3)) → (Q (some (.int (-1000002))) σ)))) ∧ (¬ (¬ (x2 < 0) ∧ ¬ ((σ.2.1 9 0) - 1 < x2)) → (Q (some (.int (-1000001))) σ))))) : nh_E kX9_judge 0 [some (.ref 0), some (.int x1), some (.int x2), some (.int x3), none, none] [] σ Q := by
  refine nE_aload_n dX9_judge_0 rfl rfl ?_
  refine nE_iload_n dX9_judge_1 rfl rfl ?_
  refine nE_callV (As := [.int x1]) yf_X9_isHouse ⟨by decide, by decide⟩ rfl rfl sR_0 rfl vl_X9_193 dX9_judge_2 rfl rfl (Nat.le_of_ble_eq_true rfl) (Nat.le_of_ble_eq_true rfl) (p_X9_isHouse _ ?_)
  refine nE_ifb_eq (tgt := 16) dX9_judge_5 (by decide) ⟨fun c1 => ?_, fun c1 => ?_⟩
  · have h := h.1 c1
    refine nE_ldc kc_X9_197 dX9_judge_16 ?_
    exact nE_iret dX9_judge_18 rfl h
  · have h := h.2 c1
    refine nE_aload_n dX9_judge_8 rfl rfl ?_
    refine nE_iload_n dX9_judge_9 rfl rfl ?_
    refine nE_callV (As := [.int x2]) yf_X9_isHouse ⟨by decide, by decide⟩ rfl rfl sR_0 rfl vl_X9_193 dX9_judge_10 rfl rfl (Nat.le_of_ble_eq_true rfl) (Nat.le_of_ble_eq_true rfl) (p_X9_isHouse _ ?_)
    refine nE_ifb_ne (tgt := 19) dX9_judge_13 (by decide) ⟨fun c2 => ?_, fun c2 => ?_⟩
    · have h := h.1 c2
      refine nE_iload_n dX9_judge_19 rfl rfl ?_
      refine nE_i2l dX9_judge_20 ?_
      refine nE_lconst (v := 0) dX9_judge_21 (by decide) ?_
      refine nE_lconst (v := 1) dX9_judge_22 (by decide) ?_
      refine nE_callS (As := [.long x3.toInt64, .long 0, .long 1]) yf_X9_in ⟨by decide, by decide⟩ rfl sl_X9_95 dX9_judge_23 rfl rfl (Nat.le_of_ble_eq_true rfl) (Nat.le_of_ble_eq_true rfl) (p_X9_in x3 0 1 (by decide) (by decide) ?_)
      refine nE_ifb_ne (tgt := 32) dX9_judge_26 (by decide) ⟨fun c3 => ?_, fun c3 => ?_⟩
      · have h := h.1 c3
        refine nE_aload_n dX9_judge_32 rfl rfl ?_
        refine nE_iload_n dX9_judge_33 rfl rfl ?_
        refine nE_iload_n dX9_judge_34 rfl rfl ?_
        refine nE_aload_n dX9_judge_35 rfl rfl ?_
        refine nE_getC fl_X9_7 sR_0 rfl dX9_judge_36 ?_
        refine nE_bipush (v := 24) dX9_judge_39 (by decide) ?_
        refine nG_iald (j := 24) sR_1 (by decide) dX9_judge_41 ⟨(nh_vi (by decide)), ?_⟩
        refine nE_callV (As := [.int x1, .int x2, .int (σ.2.1 1 24)]) yf_X9_burn ⟨by decide, by decide⟩ rfl rfl sR_0 rfl vl_X9_229 dX9_judge_42 rfl rfl (Nat.le_of_ble_eq_true rfl) (Nat.le_of_ble_eq_true rfl) (nE_mono (fun z6 τ4 h => ?_) h)
        obtain ⟨rfl, h⟩ := h
        refine nE_aload_n dX9_judge_45 rfl rfl ?_
        refine nE_callV (As := []) yf_X9_comeAll ⟨by decide, by decide⟩ rfl rfl sR_0 rfl vl_X9_233 dX9_judge_46 rfl rfl (Nat.le_of_ble_eq_true rfl) (Nat.le_of_ble_eq_true rfl) (nE_mono (fun z9 τ7 h => ?_) h)
        obtain ⟨rfl, h⟩ := h
        refine nE_iload_n dX9_judge_49 rfl rfl ?_
        refine nE_if_ne (tgt := 112) dX9_judge_50 (by decide) ⟨fun c10 => ?_, fun c10 => ?_⟩
        · have h := h.1 c10
          refine nE_iconst (v := 0) dX9_judge_112 (by decide) ?_
          refine nE_istore dX9_judge_113 rfl (by decide) ?_
          refine nE_weak 1 ?_
          refine nE_weak 2 ?_
          refine nE_weak 3 ?_
          exact h
        · have h := h.2 c10
          refine nE_iconst (v := (-1)) dX9_judge_53 (by decide) ?_
          refine nE_istore dX9_judge_54 rfl (by decide) ?_
          refine nE_iconst (v := 0) dX9_judge_56 (by decide) ?_
          refine nE_istore dX9_judge_57 rfl (by decide) ?_
          refine nE_weak 1 ?_
          refine nE_weak 2 ?_
          refine nE_weak 3 ?_
          exact h
      · have h := h.2 c3
        refine nE_ldc kc_X9_99 dX9_judge_29 ?_
        exact nE_iret dX9_judge_31 rfl h
    · have h := h.2 c2
      refine nE_ldc kc_X9_197 dX9_judge_16 ?_
      exact nE_iret dX9_judge_18 rfl h
set_option maxRecDepth 20000 in
theorem sg_X9_judge_59 (x4 : Int32) (x5 : Int32) {σ : nh_S} {Q : Option Value → nh_S → Prop} (h : (σ.2.1 9 1 ≤ x5 → (Q (some (.int x4)) σ)) ∧ (¬ (σ.2.1 9 1 ≤ x5) → (nh_E kX9_lateOf 0 [some (.ref 0), some (.int x5)] [] σ (nh_qi fun r3 τ2 => (0 ≤ x4 → (nh_E kX9_lateOf 0 [some (.ref 0), some (.int x4)] [] τ2 (nh_qi fun r7 τ6 => nh_E kX9_judge 59 [some (.ref 0), none, none, none, some (.int (if r3 ≤ r7 then x4 else x5)), some (.int (x5 + 1))] [] τ6 Q))) ∧ (¬ (0 ≤ x4) → (nh_E kX9_judge 59 [some (.ref 0), none, none, none, some (.int (if r3 ≤ 0 then x4 else x5)), some (.int (x5 + 1))] [] τ2 Q)))))) : nh_E kX9_judge 59 [some (.ref 0), none, none, none, some (.int x4), some (.int x5)] [] σ Q := by
  refine nE_iload dX9_judge_59 rfl ?_
  refine nE_aload_n dX9_judge_61 rfl rfl ?_
  refine nE_getC fl_X9_35 sR_0 rfl dX9_judge_62 ?_
  refine nE_iconst (v := 1) dX9_judge_65 (by decide) ?_
  refine nG_iald (j := 1) sR_9 (by decide) dX9_judge_66 ⟨(nh_vi (by decide)), ?_⟩
  refine nE_icmp_ge (tgt := 109) dX9_judge_67 (by decide) ⟨fun c1 => ?_, fun c1 => ?_⟩
  · have h := h.1 c1
    refine nE_iload dX9_judge_109 rfl ?_
    exact nE_iret dX9_judge_111 rfl h
  · have h := h.2 c1
    refine nE_aload_n dX9_judge_70 rfl rfl ?_
    refine nE_iload dX9_judge_71 rfl ?_
    refine nE_callV (As := [.int x5]) yf_X9_lateOf ⟨by decide, by decide⟩ rfl rfl sR_0 rfl vl_X9_313 dX9_judge_73 rfl rfl (Nat.le_of_ble_eq_true rfl) (Nat.le_of_ble_eq_true rfl) (nE_mono (fun z4 τ2 h => ?_) h)
    obtain ⟨r3, rfl, h⟩ := h
    refine nE_iload dX9_judge_76 rfl ?_
    refine nE_if_ge (tgt := 85) dX9_judge_78 (by decide) ⟨fun c5 => ?_, fun c5 => ?_⟩
    · have h := h.1 c5
      refine nE_aload_n dX9_judge_85 rfl rfl ?_
      refine nE_iload dX9_judge_86 rfl ?_
      refine nE_callV (As := [.int x4]) yf_X9_lateOf ⟨by decide, by decide⟩ rfl rfl sR_0 rfl vl_X9_313 dX9_judge_88 rfl rfl (Nat.le_of_ble_eq_true rfl) (Nat.le_of_ble_eq_true rfl) (nE_mono (fun z8 τ6 h => ?_) h)
      obtain ⟨r7, rfl, h⟩ := h
      have j9 : nh_E kX9_judge 101 [some (.ref 0), none, none, none, some (.int x4), some (.int x5)] [.int (if r3 ≤ r7 then x4 else x5)] τ6 Q := by
        refine nE_istore dX9_judge_101 rfl (by decide) ?_
        refine nE_iinc (v := x5 + 1) dX9_judge_103 rfl rfl (by decide) rfl ?_
        refine nE_goto (tgt := 59) dX9_judge_106 (by decide) ?_
        exact h
      refine nE_icmp_le (tgt := 99) dX9_judge_91 (by decide) ⟨fun c10 => ?_, fun c10 => ?_⟩
      · skip
        have f11 : (r3 ≤ r7) = True := eq_true c10
        refine nE_iload dX9_judge_99 rfl ?_
        exact nh_topi (show ((if r3 ≤ r7 then x4 else x5) : Int32) = x4 from by simp only [if_true, if_false, not_true_eq_false, not_false_eq_true, true_and, and_true, false_and, and_false, true_or, or_true, false_or, or_false, if_pos, if_neg, ite_true, ite_false, f11]) j9
      · skip
        have f12 : (r3 ≤ r7) = False := eq_false c10
        refine nE_iload dX9_judge_94 rfl ?_
        refine nE_goto (tgt := 101) dX9_judge_96 (by decide) ?_
        exact nh_topi (show ((if r3 ≤ r7 then x4 else x5) : Int32) = x5 from by simp only [if_true, if_false, not_true_eq_false, not_false_eq_true, true_and, and_true, false_and, and_false, true_or, or_true, false_or, or_false, if_pos, if_neg, ite_true, ite_false, f12]) j9
    · have h := h.2 c5
      refine nE_iconst (v := 0) dX9_judge_81 (by decide) ?_
      refine nE_goto (tgt := 91) dX9_judge_82 (by decide) ?_
      have j13 : nh_E kX9_judge 101 [some (.ref 0), none, none, none, some (.int x4), some (.int x5)] [.int (if r3 ≤ 0 then x4 else x5)] τ2 Q := by
        refine nE_istore dX9_judge_101 rfl (by decide) ?_
        refine nE_iinc (v := x5 + 1) dX9_judge_103 rfl rfl (by decide) rfl ?_
        refine nE_goto (tgt := 59) dX9_judge_106 (by decide) ?_
        exact h
      refine nE_icmp_le (tgt := 99) dX9_judge_91 (by decide) ⟨fun c14 => ?_, fun c14 => ?_⟩
      · skip
        have f15 : (r3 ≤ 0) = True := eq_true c14
        refine nE_iload dX9_judge_99 rfl ?_
        exact nh_topi (show ((if r3 ≤ 0 then x4 else x5) : Int32) = x4 from by simp only [if_true, if_false, not_true_eq_false, not_false_eq_true, true_and, and_true, false_and, and_false, true_or, or_true, false_or, or_false, if_pos, if_neg, ite_true, ite_false, f15]) j13
      · skip
        have f16 : (r3 ≤ 0) = False := eq_false c14
        refine nE_iload dX9_judge_94 rfl ?_
        refine nE_goto (tgt := 101) dX9_judge_96 (by decide) ?_
        exact nh_topi (show ((if r3 ≤ 0 then x4 else x5) : Int32) = x5 from by simp only [if_true, if_false, not_true_eq_false, not_false_eq_true, true_and, and_true, false_and, and_false, true_or, or_true, false_or, or_false, if_pos, if_neg, ite_true, ite_false, f16]) j13
set_option maxRecDepth 20000 in
theorem sg_X9_judge_115 (x4 : Int32) {σ : nh_S} {Q : Option Value → nh_S → Prop} (h : (σ.2.1 9 1 ≤ x4 → (nh_E kX9_putIn 0 [some (.ref 0), some (.int ((1 <<< ((σ.2.1 9 1) &&& 31)) - 1)), none, none, none] [] σ (nh_qi fun r3 τ2 => Q (some (.int r3)) τ2))) ∧ (¬ (σ.2.1 9 1 ≤ x4) → (((¬ (nh_hs (σ.1 0 37) x4) → (vp_in x4 12)) ∧ ((nh_hs (σ.1 0 37) x4) → (vp_in x4 12))) ∧ (vp_in x4 12) ∧ nh_E kX9_judge 115 [some (.ref 0), none, none, none, some (.int (x4 + 1)), none] [] (nh_wa σ 18 x4.toNatClampNeg (if nh_hs (σ.1 0 37) x4 then σ.2.1 26 x4.toNatClampNeg else σ.2.1 18 x4.toNatClampNeg)) Q))) : nh_E kX9_judge 115 [some (.ref 0), none, none, none, some (.int x4), none] [] σ Q := by
  refine nE_iload dX9_judge_115 rfl ?_
  refine nE_aload_n dX9_judge_117 rfl rfl ?_
  refine nE_getC fl_X9_35 sR_0 rfl dX9_judge_118 ?_
  refine nE_iconst (v := 1) dX9_judge_121 (by decide) ?_
  refine nG_iald (j := 1) sR_9 (by decide) dX9_judge_122 ⟨(nh_vi (by decide)), ?_⟩
  refine nE_icmp_ge (tgt := 168) dX9_judge_123 (by decide) ⟨fun c1 => ?_, fun c1 => ?_⟩
  · have h := h.1 c1
    refine nE_aload_n dX9_judge_168 rfl rfl ?_
    refine nE_aload_n dX9_judge_169 rfl rfl ?_
    refine nE_callV (As := []) yf_X9_allParts ⟨by decide, by decide⟩ rfl rfl sR_0 rfl vl_X9_236 dX9_judge_170 rfl rfl (Nat.le_of_ble_eq_true rfl) (Nat.le_of_ble_eq_true rfl) (p_X9_allParts ?_)
    refine nE_callV (As := [.int ((1 <<< ((σ.2.1 9 1) &&& 31)) - 1)]) yf_X9_putIn ⟨by decide, by decide⟩ rfl rfl sR_0 rfl vl_X9_239 dX9_judge_173 rfl rfl (Nat.le_of_ble_eq_true rfl) (Nat.le_of_ble_eq_true rfl) (nE_mono (fun z4 τ2 h => ?_) h)
    obtain ⟨r3, rfl, h⟩ := h
    exact nE_iret dX9_judge_176 rfl h
  · have h := h.2 c1
    refine nE_aload_n dX9_judge_126 rfl rfl ?_
    refine nE_getC fl_X9_66 sR_0 rfl dX9_judge_127 ?_
    refine nE_iload dX9_judge_130 rfl ?_
    refine nE_aload_n dX9_judge_132 rfl rfl ?_
    refine nE_getI fl_X9_179 sR_0 rfl dX9_judge_133 ?_
    refine nE_iload dX9_judge_136 rfl ?_
    refine nE_callS (As := [.int (σ.1 0 37), .int x4]) yf_X9_has ⟨by decide, by decide⟩ rfl sl_X9_146 dX9_judge_138 rfl rfl (Nat.le_of_ble_eq_true rfl) (Nat.le_of_ble_eq_true rfl) (p_X9_has _ _ ?_)
    obtain ⟨u7, h⟩ := h
    have j9 : nh_E kX9_judge 161 [some (.ref 0), none, none, none, some (.int x4), none] [.int (if nh_hs (σ.1 0 37) x4 then σ.2.1 26 x4.toNatClampNeg else σ.2.1 18 x4.toNatClampNeg), .int x4, .ref 18] σ Q := by
      obtain ⟨g8, h⟩ := h
      refine nG_iast (j := x4.toNatClampNeg) sR_18 rfl dX9_judge_161 ⟨g8, ?_⟩
      refine nE_iinc (v := x4 + 1) dX9_judge_162 rfl rfl (by decide) rfl ?_
      refine nE_goto (tgt := 115) dX9_judge_165 (by decide) ?_
      exact h
    obtain ⟨u10, u11⟩ := u7
    refine nE_ifb_eq (tgt := 154) dX9_judge_141 (by decide) ⟨fun c12 => ?_, fun c12 => ?_⟩
    · skip
      have f13 : (nh_hs (σ.1 0 37) x4) = False := eq_false c12
      have g5 := (u10 c12)
      refine nE_aload_n dX9_judge_154 rfl rfl ?_
      refine nE_getC fl_X9_66 sR_0 rfl dX9_judge_155 ?_
      refine nE_iload dX9_judge_158 rfl ?_
      refine nG_iald (j := x4.toNatClampNeg) sR_18 rfl dX9_judge_160 ⟨g5, ?_⟩
      exact nh_topi (show ((if nh_hs (σ.1 0 37) x4 then σ.2.1 26 x4.toNatClampNeg else σ.2.1 18 x4.toNatClampNeg) : Int32) = σ.2.1 18 x4.toNatClampNeg from by simp only [if_true, if_false, not_true_eq_false, not_false_eq_true, true_and, and_true, false_and, and_false, true_or, or_true, false_or, or_false, if_pos, if_neg, ite_true, ite_false, f13]) j9
    · skip
      have f14 : (nh_hs (σ.1 0 37) x4) = True := eq_true c12
      have g6 := (u11 c12)
      refine nE_aload_n dX9_judge_144 rfl rfl ?_
      refine nE_getC fl_X9_90 sR_0 rfl dX9_judge_145 ?_
      refine nE_iload dX9_judge_148 rfl ?_
      refine nG_iald (j := x4.toNatClampNeg) sR_26 rfl dX9_judge_150 ⟨g6, ?_⟩
      refine nE_goto (tgt := 161) dX9_judge_151 (by decide) ?_
      exact nh_topi (show ((if nh_hs (σ.1 0 37) x4 then σ.2.1 26 x4.toNatClampNeg else σ.2.1 18 x4.toNatClampNeg) : Int32) = σ.2.1 26 x4.toNatClampNeg from by simp only [if_true, if_false, not_true_eq_false, not_false_eq_true, true_and, and_true, false_and, and_false, true_or, or_true, false_or, or_false, if_pos, if_neg, ite_true, ite_false, f14]) j9
set_option maxRecDepth 20000 in
theorem sg_X9_seed_0 (x1 : Int32) {σ : nh_S} {Q : Option Value → nh_S → Prop} (h : (0 ≤ x1 → (Q (some (.int (σ.2.1 1 25))) (nh_wa σ 1 25 x1))) ∧ (¬ (0 ≤ x1) → (Q (some (.int (-1000002))) σ))) : nh_E kX9_seed 0 [some (.ref 0), some (.int x1), none] [] σ Q := by
  refine nE_iload_n dX9_seed_0 rfl rfl ?_
  refine nE_if_ge (tgt := 7) dX9_seed_1 (by decide) ⟨fun c1 => ?_, fun c1 => ?_⟩
  · have h := h.1 c1
    refine nE_aload_n dX9_seed_7 rfl rfl ?_
    refine nE_getC fl_X9_7 sR_0 rfl dX9_seed_8 ?_
    refine nE_bipush (v := 25) dX9_seed_11 (by decide) ?_
    refine nG_iald (j := 25) sR_1 (by decide) dX9_seed_13 ⟨(nh_vi (by decide)), ?_⟩
    refine nE_istore_n dX9_seed_14 rfl rfl (by decide) ?_
    refine nE_aload_n dX9_seed_15 rfl rfl ?_
    refine nE_getC fl_X9_7 sR_0 rfl dX9_seed_16 ?_
    refine nE_bipush (v := 25) dX9_seed_19 (by decide) ?_
    refine nE_iload_n dX9_seed_21 rfl rfl ?_
    refine nG_iast (j := 25) sR_1 (by decide) dX9_seed_22 ⟨(nh_vi (by decide)), ?_⟩
    refine nE_iload_n dX9_seed_23 rfl rfl ?_
    exact nE_iret dX9_seed_24 rfl h
  · have h := h.2 c1
    refine nE_ldc kc_X9_99 dX9_seed_4 ?_
    exact nE_iret dX9_seed_6 rfl h
set_option maxRecDepth 20000 in
theorem sg_X9_copy_0 (x1 : Int32) (x2 : Int32) {σ : nh_S} {Q : Option Value → nh_S → Prop} (h : nh_E kX9_copy 2 [some (.ref 0), some (.int x1), some (.int x2), some (.int 0)] [] σ Q) : nh_E kX9_copy 0 [some (.ref 0), some (.int x1), some (.int x2), none] [] σ Q := by
  refine nE_iconst (v := 0) dX9_copy_0 (by decide) ?_
  refine nE_istore_n dX9_copy_1 rfl rfl (by decide) ?_
  exact h
set_option maxRecDepth 20000 in
theorem sg_X9_copy_2 (x1 : Int32) (x2 : Int32) (x3 : Int32) {σ : nh_S} {Q : Option Value → nh_S → Prop} (h : (26 ≤ x3 → (Q none σ)) ∧ (¬ (26 ≤ x3) → ((vp_in (x1 + x3) 78) ∧ (vp_in (x2 + x3) 78) ∧ nh_E kX9_copy 2 [some (.ref 0), some (.int x1), some (.int x2), some (.int (x3 + 1))] [] (nh_wa σ 1 ((x2 + x3).toNatClampNeg) (σ.2.1 1 ((x1 + x3).toNatClampNeg))) Q))) : nh_E kX9_copy 2 [some (.ref 0), some (.int x1), some (.int x2), some (.int x3)] [] σ Q := by
  refine nE_iload_n dX9_copy_2 rfl rfl ?_
  refine nE_bipush (v := 26) dX9_copy_3 (by decide) ?_
  refine nE_icmp_ge (tgt := 30) dX9_copy_5 (by decide) ⟨fun c1 => ?_, fun c1 => ?_⟩
  · have h := h.1 c1
    exact nE_vret dX9_copy_30 rfl h
  · have h := h.2 c1
    refine nE_aload_n dX9_copy_8 rfl rfl ?_
    refine nE_getC fl_X9_7 sR_0 rfl dX9_copy_9 ?_
    refine nE_iload_n dX9_copy_12 rfl rfl ?_
    refine nE_iload_n dX9_copy_13 rfl rfl ?_
    refine nE_iadd dX9_copy_14 ?_
    refine nE_aload_n dX9_copy_15 rfl rfl ?_
    refine nE_getC fl_X9_7 sR_0 rfl dX9_copy_16 ?_
    refine nE_iload_n dX9_copy_19 rfl rfl ?_
    refine nE_iload_n dX9_copy_20 rfl rfl ?_
    refine nE_iadd dX9_copy_21 ?_
    obtain ⟨g2, h⟩ := h
    refine nG_iald (j := (x1 + x3).toNatClampNeg) sR_1 rfl dX9_copy_22 ⟨g2, ?_⟩
    obtain ⟨g3, h⟩ := h
    refine nG_iast (j := (x2 + x3).toNatClampNeg) sR_1 rfl dX9_copy_23 ⟨g3, ?_⟩
    refine nE_iinc (v := x3 + 1) dX9_copy_24 rfl rfl (by decide) rfl ?_
    refine nE_goto (tgt := 2) dX9_copy_27 (by decide) ?_
    exact h
set_option maxRecDepth 20000 in
theorem sg_X9_keep_0 (x1 : Int32) {σ : nh_S} {Q : Option Value → nh_S → Prop} (h : (¬ (x1 < 0) ∧ ¬ (1 < x1) → (nh_E kX9_copy 0 [some (.ref 0), some (.int 0), some (.int (26 * (x1 + 1))), none] [] σ (nh_qv fun τ2 => (vp_in x1 2) ∧ Q (some (.int 1)) (nh_wa τ2 2 x1.toNatClampNeg (vp_nar .boolean 1))))) ∧ (¬ (¬ (x1 < 0) ∧ ¬ (1 < x1)) → (Q (some (.int (-1000001))) σ))) : nh_E kX9_keep 0 [some (.ref 0), some (.int x1)] [] σ Q := by
  refine nE_iload_n dX9_keep_0 rfl rfl ?_
  refine nE_i2l dX9_keep_1 ?_
  refine nE_lconst (v := 0) dX9_keep_2 (by decide) ?_
  refine nE_lconst (v := 1) dX9_keep_3 (by decide) ?_
  refine nE_callS (As := [.long x1.toInt64, .long 0, .long 1]) yf_X9_in ⟨by decide, by decide⟩ rfl sl_X9_95 dX9_keep_4 rfl rfl (Nat.le_of_ble_eq_true rfl) (Nat.le_of_ble_eq_true rfl) (p_X9_in x1 0 1 (by decide) (by decide) ?_)
  refine nE_ifb_ne (tgt := 13) dX9_keep_7 (by decide) ⟨fun c1 => ?_, fun c1 => ?_⟩
  · have h := h.1 c1
    refine nE_aload_n dX9_keep_13 rfl rfl ?_
    refine nE_iconst (v := 0) dX9_keep_14 (by decide) ?_
    refine nE_bipush (v := 26) dX9_keep_15 (by decide) ?_
    refine nE_iload_n dX9_keep_17 rfl rfl ?_
    refine nE_iconst (v := 1) dX9_keep_18 (by decide) ?_
    refine nE_iadd dX9_keep_19 ?_
    refine nE_imul dX9_keep_20 ?_
    refine nE_callV (As := [.int 0, .int (26 * (x1 + 1))]) yf_X9_copy ⟨by decide, by decide⟩ rfl rfl sR_0 rfl vl_X9_316 dX9_keep_21 rfl rfl (Nat.le_of_ble_eq_true rfl) (Nat.le_of_ble_eq_true rfl) (nE_mono (fun z4 τ2 h => ?_) h)
    obtain ⟨rfl, h⟩ := h
    refine nE_aload_n dX9_keep_24 rfl rfl ?_
    refine nE_getC fl_X9_13 sR_0 rfl dX9_keep_25 ?_
    refine nE_iload_n dX9_keep_28 rfl rfl ?_
    refine nE_iconst (v := 1) dX9_keep_29 (by decide) ?_
    obtain ⟨g5, h⟩ := h
    refine nG_zast (j := x1.toNatClampNeg) sR_2 rfl dX9_keep_30 ⟨g5, ?_⟩
    refine nE_iconst (v := 1) dX9_keep_31 (by decide) ?_
    exact nE_iret dX9_keep_32 rfl h
  · have h := h.2 c1
    refine nE_ldc kc_X9_197 dX9_keep_10 ?_
    exact nE_iret dX9_keep_12 rfl h
set_option maxRecDepth 20000 in
theorem sg_X9_goBack_0 (x1 : Int32) {σ : nh_S} {Q : Option Value → nh_S → Prop} (h : (¬ (x1 < 0) ∧ ¬ (1 < x1) → ((vp_in x1 2) ∧ (¬ (σ.2.1 2 x1.toNatClampNeg = 0) → (nh_E kX9_copy 0 [some (.ref 0), some (.int (26 * (x1 + 1))), some (.int 0), none] [] σ (nh_qv fun τ4 => Q (some (.int 1)) τ4))) ∧ (σ.2.1 2 x1.toNatClampNeg = 0 → (Q (some (.int (-1000003))) σ)))) ∧ (¬ (¬ (x1 < 0) ∧ ¬ (1 < x1)) → (Q (some (.int (-1000001))) σ))) : nh_E kX9_goBack 0 [some (.ref 0), some (.int x1)] [] σ Q := by
  refine nE_iload_n dX9_goBack_0 rfl rfl ?_
  refine nE_i2l dX9_goBack_1 ?_
  refine nE_lconst (v := 0) dX9_goBack_2 (by decide) ?_
  refine nE_lconst (v := 1) dX9_goBack_3 (by decide) ?_
  refine nE_callS (As := [.long x1.toInt64, .long 0, .long 1]) yf_X9_in ⟨by decide, by decide⟩ rfl sl_X9_95 dX9_goBack_4 rfl rfl (Nat.le_of_ble_eq_true rfl) (Nat.le_of_ble_eq_true rfl) (p_X9_in x1 0 1 (by decide) (by decide) ?_)
  refine nE_ifb_ne (tgt := 13) dX9_goBack_7 (by decide) ⟨fun c1 => ?_, fun c1 => ?_⟩
  · have h := h.1 c1
    refine nE_aload_n dX9_goBack_13 rfl rfl ?_
    refine nE_getC fl_X9_13 sR_0 rfl dX9_goBack_14 ?_
    refine nE_iload_n dX9_goBack_17 rfl rfl ?_
    obtain ⟨g2, h⟩ := h
    refine nG_zald (j := x1.toNatClampNeg) sR_2 rfl dX9_goBack_18 ⟨g2, ?_⟩
    refine nE_if_ne (tgt := 25) dX9_goBack_19 (by decide) ⟨fun c3 => ?_, fun c3 => ?_⟩
    · have h := h.1 c3
      refine nE_aload_n dX9_goBack_25 rfl rfl ?_
      refine nE_bipush (v := 26) dX9_goBack_26 (by decide) ?_
      refine nE_iload_n dX9_goBack_28 rfl rfl ?_
      refine nE_iconst (v := 1) dX9_goBack_29 (by decide) ?_
      refine nE_iadd dX9_goBack_30 ?_
      refine nE_imul dX9_goBack_31 ?_
      refine nE_iconst (v := 0) dX9_goBack_32 (by decide) ?_
      refine nE_callV (As := [.int (26 * (x1 + 1)), .int 0]) yf_X9_copy ⟨by decide, by decide⟩ rfl rfl sR_0 rfl vl_X9_316 dX9_goBack_33 rfl rfl (Nat.le_of_ble_eq_true rfl) (Nat.le_of_ble_eq_true rfl) (nE_mono (fun z6 τ4 h => ?_) h)
      obtain ⟨rfl, h⟩ := h
      refine nE_iconst (v := 1) dX9_goBack_36 (by decide) ?_
      exact nE_iret dX9_goBack_37 rfl h
    · have h := h.2 c3
      refine nE_ldc kc_X9_185 dX9_goBack_22 ?_
      exact nE_iret dX9_goBack_24 rfl h
  · have h := h.2 c1
    refine nE_ldc kc_X9_197 dX9_goBack_10 ?_
    exact nE_iret dX9_goBack_12 rfl h
