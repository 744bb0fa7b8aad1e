set_option maxRecDepth 20000 in
theorem sg_X0_sendOut_0 {o1 : Nat} (ho1 : isP o1) {o2 : Nat} (ho2 : isN o2) (x3 : Int32) {σ : nh_S} {Q : Option Value → nh_S → Prop} (h : nh_E kX0_sendOut 16 [some (.ref 25), some (.ref o1), some (.ref o2), none, some (.int 0)] [] (nh_si (nh_si σ 25 3 x3) 27 0 0) Q) : nh_E kX0_sendOut 0 [some (.ref 25), some (.ref o1), some (.ref o2), some (.int x3), none] [] σ Q := by
  refine nE_aload_n dX0_sendOut_0 rfl rfl ?_
  refine nE_iload_n dX0_sendOut_1 rfl rfl ?_
  refine nE_putI fl_X0_22 sC_25 rfl ⟨rfl, rfl⟩ dX0_sendOut_2 ?_
  refine nE_aload_n dX0_sendOut_5 rfl rfl ?_
  refine nE_getC fl_X0_12 sC_25 rfl dX0_sendOut_6 ?_
  refine nE_iconst (v := 0) dX0_sendOut_9 (by decide) ?_
  refine nE_putI fl_X0_26 (sL_0 isL_27) rfl ⟨rfl, rfl⟩ dX0_sendOut_10 ?_
  refine nE_iconst (v := 0) dX0_sendOut_13 (by decide) ?_
  refine nE_istore dX0_sendOut_14 rfl (by decide) ?_
  refine nE_weak 3 ?_
  exact h
set_option maxRecDepth 20000 in
theorem sg_X0_sendOut_16 {o1 : Nat} (ho1 : isP o1) {o2 : Nat} (ho2 : isN o2) (x4 : Int32) {σ : nh_S} {Q : Option Value → nh_S → Prop} (h : (σ.1 o1 0 ≤ x4 → (Q (some (.int 1)) σ)) ∧ (¬ (σ.1 o1 0 ≤ x4) → ((x4 = σ.1 25 3 → (nh_E kX0_sendOut 16 [some (.ref 25), some (.ref o1), some (.ref o2), none, some (.int (x4 + 1))] [] σ Q)) ∧ (¬ (x4 = σ.1 25 3) → (nh_E kX2_partsAt 0 [some (.ref o2), some (.int x4), some (.int (σ.1 o1 1)), none, none] [] σ (nh_qi fun r4 τ3 => (r4 = 0 → (nh_E kX0_sendOut 16 [some (.ref 25), some (.ref o1), some (.ref o2), none, some (.int (x4 + 1))] [] τ3 Q)) ∧ (¬ (r4 = 0) → ((τ3.1 27 0 < 7 → ((vp_in (τ3.1 27 0) 20) ∧ nh_E kX0_sendOut 16 [some (.ref 25), some (.ref o1), some (.ref o2), none, some (.int (x4 + 1))] [] (nh_si (nh_wa (nh_wa τ3 28 ((τ3.1 27 0).toNatClampNeg) (τ3.1 25 3)) 29 ((τ3.1 27 0).toNatClampNeg) x4) 27 0 ((τ3.1 27 0) + 1)) Q)) ∧ (¬ (τ3.1 27 0 < 7) → (Q (some (.int 0)) τ3)))))))))) : nh_E kX0_sendOut 16 [some (.ref 25), some (.ref o1), some (.ref o2), none, some (.int x4)] [] σ Q := by
  refine nE_iload dX0_sendOut_16 rfl ?_
  refine nE_aload_n dX0_sendOut_18 rfl rfl ?_
  refine nE_getI fl_X0_29 (sP_0 ho1) rfl dX0_sendOut_19 ?_
  refine nE_icmp_ge (tgt := 116) dX0_sendOut_22 (by decide) ⟨fun c1 => ?_, fun c1 => ?_⟩
  · have h := h.1 c1
    refine nE_iconst (v := 1) dX0_sendOut_116 (by decide) ?_
    exact nE_zret (ty := .boolean) dX0_sendOut_117 rfl (by decide) h
  · have h := h.2 c1
    refine nE_iload dX0_sendOut_25 rfl ?_
    refine nE_aload_n dX0_sendOut_27 rfl rfl ?_
    refine nE_getI fl_X0_22 sC_25 rfl dX0_sendOut_28 ?_
    refine nE_icmp_eq (tgt := 110) dX0_sendOut_31 (by decide) ⟨fun c2 => ?_, fun c2 => ?_⟩
    · have h := h.1 c2
      refine nE_iinc (v := x4 + 1) dX0_sendOut_110 rfl rfl (by decide) rfl ?_
      refine nE_goto (tgt := 16) dX0_sendOut_113 (by decide) ?_
      exact h
    · have h := h.2 c2
      refine nE_aload_n dX0_sendOut_34 rfl rfl ?_
      refine nE_iload dX0_sendOut_35 rfl ?_
      refine nE_aload_n dX0_sendOut_37 rfl rfl ?_
      refine nE_getI fl_X0_34 (sP_0 ho1) rfl dX0_sendOut_38 ?_
      refine nE_callV (As := [.int x4, .int (σ.1 o1 1)]) yf_X2_partsAt ⟨by decide, by decide⟩ rfl rfl (sN_0 ho2) rfl vl_X0_37 dX0_sendOut_41 rfl rfl (Nat.le_of_ble_eq_true rfl) (Nat.le_of_ble_eq_true rfl) (nE_mono (fun z5 τ3 h => ?_) h)
      obtain ⟨r4, rfl, h⟩ := h
      refine nE_if_eq (tgt := 110) dX0_sendOut_44 (by decide) ⟨fun c6 => ?_, fun c6 => ?_⟩
      · have h := h.1 c6
        refine nE_iinc (v := x4 + 1) dX0_sendOut_110 rfl rfl (by decide) rfl ?_
        refine nE_goto (tgt := 16) dX0_sendOut_113 (by decide) ?_
        exact h
      · have h := h.2 c6
        refine nE_aload_n dX0_sendOut_47 rfl rfl ?_
        refine nE_getC fl_X0_12 sC_25 rfl dX0_sendOut_48 ?_
        refine nE_getI fl_X0_26 (sL_0 isL_27) rfl dX0_sendOut_51 ?_
        refine nE_bipush (v := 7) dX0_sendOut_54 (by decide) ?_
        refine nE_icmp_lt (tgt := 61) dX0_sendOut_56 (by decide) ⟨fun c7 => ?_, fun c7 => ?_⟩
        · have h := h.1 c7
          refine nE_aload_n dX0_sendOut_61 rfl rfl ?_
          refine nE_getC fl_X0_12 sC_25 rfl dX0_sendOut_62 ?_
          refine nE_getC fl_X0_43 (sL_0 isL_27) rfl dX0_sendOut_65 ?_
          refine nE_aload_n dX0_sendOut_68 rfl rfl ?_
          refine nE_getC fl_X0_12 sC_25 rfl dX0_sendOut_69 ?_
          refine nE_getI fl_X0_26 (sL_0 isL_27) rfl dX0_sendOut_72 ?_
          refine nE_aload_n dX0_sendOut_75 rfl rfl ?_
          refine nE_getI fl_X0_22 sC_25 rfl dX0_sendOut_76 ?_
          obtain ⟨g8, h⟩ := h
          refine nG_iast (j := (τ3.1 27 0).toNatClampNeg) (sL_1 isL_27) rfl dX0_sendOut_79 ⟨g8, ?_⟩
          refine nE_aload_n dX0_sendOut_80 rfl rfl ?_
          refine nE_getC fl_X0_12 sC_25 rfl dX0_sendOut_81 ?_
          refine nE_getC fl_X0_46 (sL_0 isL_27) rfl dX0_sendOut_84 ?_
          refine nE_aload_n dX0_sendOut_87 rfl rfl ?_
          refine nE_getC fl_X0_12 sC_25 rfl dX0_sendOut_88 ?_
          refine nE_getI fl_X0_26 (sL_0 isL_27) rfl dX0_sendOut_91 ?_
          refine nE_iload dX0_sendOut_94 rfl ?_
          refine nG_iast (j := (τ3.1 27 0).toNatClampNeg) (sL_2 isL_27) rfl dX0_sendOut_96 ⟨g8, ?_⟩
          refine nE_aload_n dX0_sendOut_97 rfl rfl ?_
          refine nE_getC fl_X0_12 sC_25 rfl dX0_sendOut_98 ?_
          refine nE_dup dX0_sendOut_101 rfl ?_
          refine nE_getI fl_X0_26 (sL_0 isL_27) rfl dX0_sendOut_102 ?_
          refine nE_iconst (v := 1) dX0_sendOut_105 (by decide) ?_
          refine nE_iadd dX0_sendOut_106 ?_
          refine nE_putI fl_X0_26 (sL_0 isL_27) rfl ⟨rfl, rfl⟩ dX0_sendOut_107 ?_
          refine nE_iinc (v := x4 + 1) dX0_sendOut_110 rfl rfl (by decide) rfl ?_
          refine nE_goto (tgt := 16) dX0_sendOut_113 (by decide) ?_
          exact h
        · have h := h.2 c7
          refine nE_iconst (v := 0) dX0_sendOut_59 (by decide) ?_
          exact nE_zret (ty := .boolean) dX0_sendOut_60 rfl (by decide) h
set_option maxRecDepth 20000 in
theorem sg_X0_search_0 {o1 : Nat} (ho1 : isP o1) {o2 : Nat} (ho2 : isN o2) {o4 : Nat} (ho4 : isG o4) (x5 : Int32) {σ : nh_S} {Q : Option Value → nh_S → Prop} (h : nh_E kX0_search 8 [some (.ref 25), some (.ref o1), some (.ref o2), some (.ref 12), some (.ref o4), some (.int x5), some (.int 0), none] [] (nh_si σ 25 2 (-1)) Q) : nh_E kX0_search 0 [some (.ref 25), some (.ref o1), some (.ref o2), some (.ref 12), some (.ref o4), some (.int x5), none, none] [] σ Q := by
  refine nE_aload_n dX0_search_0 rfl rfl ?_
  refine nE_iconst (v := (-1)) dX0_search_1 (by decide) ?_
  refine nE_putI fl_X0_49 sC_25 rfl ⟨rfl, rfl⟩ dX0_search_2 ?_
  refine nE_iconst (v := 0) dX0_search_5 (by decide) ?_
  refine nE_istore dX0_search_6 rfl (by decide) ?_
  exact h
set_option maxRecDepth 20000 in
theorem sg_X0_search_8 {o1 : Nat} (ho1 : isP o1) {o2 : Nat} (ho2 : isN o2) {o4 : Nat} (ho4 : isG o4) (x5 : Int32) (x6 : Int32) {σ : nh_S} {Q : Option Value → nh_S → Prop} (h : (5040 ≤ x6 → (Q none σ)) ∧ (¬ (5040 ≤ x6) → (nh_E kX7_run 0 [some (.ref 12), some (.ref o1), some (.ref 27), some (.int (σ.1 25 3)), some (.int (σ.1 o2 2)), none] [] σ (nh_qv fun τ2 => nh_E kX5_gather 0 [some (.ref o4), some (.ref o1), some (.ref 12), some (.ref (o2 + 1)), some (.int x5), none] [] τ2 (nh_qv fun τ5 => nh_E kX5_run 0 [some (.ref o4), some (.ref o1), some (.int ((1 <<< ((τ5.1 o1 1) &&& 31)) - 1)), none] [] τ5 (nh_qi fun r9 τ8 => (τ8.1 25 2 = (-1) → ((¬ (0 : Int32) < 0 ∧ ¬ (0 : Int32) < 0 ∧ ¬ (τ8.1 27 0) < 0 ∧ (0 : Int32).toNatClampNeg + (τ8.1 27 0).toNatClampNeg ≤ 20 ∧ (0 : Int32).toNatClampNeg + (τ8.1 27 0).toNatClampNeg ≤ 7) ∧ nh_E kX0_turnToNext 0 [some (.ref 25), none, none, none, none, none, none] [] (nh_cp (nh_si τ8 25 2 (if r9 = (-1) then 500 else r9)) 29 26 ((0 : Int32).toNatClampNeg) ((0 : Int32).toNatClampNeg) ((τ8.1 27 0).toNatClampNeg)) (nh_qi fun r14 τ13 => (¬ (r14 = 0) → (nh_E kX0_search 8 [some (.ref 25), some (.ref o1), some (.ref o2), some (.ref 12), some (.ref o4), some (.int x5), some (.int (x6 + 1)), none] [] τ13 Q)) ∧ (r14 = 0 → (Q none τ13))))) ∧ (¬ (τ8.1 25 2 = (-1)) → ((τ8.1 25 2 ≤ (if r9 = (-1) then 500 else r9) → (nh_E kX0_turnToNext 0 [some (.ref 25), none, none, none, none, none, none] [] τ8 (nh_qi fun r19 τ18 => (¬ (r19 = 0) → (nh_E kX0_search 8 [some (.ref 25), some (.ref o1), some (.ref o2), some (.ref 12), some (.ref o4), some (.int x5), some (.int (x6 + 1)), none] [] τ18 Q)) ∧ (r19 = 0 → (Q none τ18))))) ∧ (¬ (τ8.1 25 2 ≤ (if r9 = (-1) then 500 else r9)) → ((¬ (0 : Int32) < 0 ∧ ¬ (0 : Int32) < 0 ∧ ¬ (τ8.1 27 0) < 0 ∧ (0 : Int32).toNatClampNeg + (τ8.1 27 0).toNatClampNeg ≤ 20 ∧ (0 : Int32).toNatClampNeg + (τ8.1 27 0).toNatClampNeg ≤ 7) ∧ nh_E kX0_turnToNext 0 [some (.ref 25), none, none, none, none, none, none] [] (nh_cp (nh_si τ8 25 2 (if r9 = (-1) then 500 else r9)) 29 26 ((0 : Int32).toNatClampNeg) ((0 : Int32).toNatClampNeg) ((τ8.1 27 0).toNatClampNeg)) (nh_qi fun r24 τ23 => (¬ (r24 = 0) → (nh_E kX0_search 8 [some (.ref 25), some (.ref o1), some (.ref o2), some (.ref 12), some (.ref o4), some (.int x5), some (.int (x6 + 1)), none] [] τ23 Q)) ∧ (r24 = 0 → (Q none τ23))))))))))))) : nh_E kX0_search 8 [some (.ref 25), some (.ref o1), some (.ref o2), some (.ref 12), some (.ref o4), some (.int x5), some (.int x6), none] [] σ Q := by
  refine nE_iload dX0_search_8 rfl ?_
  refine nE_sipush (v := 5040) dX0_search_10 (by decide) ?_
  refine nE_icmp_ge (tgt := 123) dX0_search_13 (by decide) ⟨fun c1 => ?_, fun c1 => ?_⟩
  · have h := h.1 c1
    exact nE_vret dX0_search_123 rfl h
  · have h := h.2 c1
    refine nE_aload_n dX0_search_16 rfl rfl ?_
    refine nE_aload_n dX0_search_17 rfl rfl ?_
    refine nE_aload_n dX0_search_18 rfl rfl ?_
    refine nE_getC fl_X0_12 sC_25 rfl dX0_search_19 ?_
    refine nE_aload_n dX0_search_22 rfl rfl ?_
    refine nE_getI fl_X0_22 sC_25 rfl dX0_search_23 ?_
    refine nE_aload_n dX0_search_26 rfl rfl ?_
    refine nE_getI fl_X0_52 (sN_0 ho2) rfl dX0_search_27 ?_
    refine nE_callV (As := [.ref o1, .ref 27, .int (σ.1 25 3), .int (σ.1 o2 2)]) yf_X7_run ⟨by decide, by decide⟩ rfl rfl sC_12 rfl vl_X0_55 dX0_search_30 rfl rfl (Nat.le_of_ble_eq_true rfl) (Nat.le_of_ble_eq_true rfl) (nE_mono (fun z4 τ2 h => ?_) h)
    obtain ⟨rfl, h⟩ := h
    refine nE_aload dX0_search_33 rfl ?_
    refine nE_aload_n dX0_search_35 rfl rfl ?_
    refine nE_aload_n dX0_search_36 rfl rfl ?_
    refine nE_aload_n dX0_search_37 rfl rfl ?_
    refine nE_getC fl_X0_61 (sN_0 ho2) rfl dX0_search_38 ?_
    refine nE_iload dX0_search_41 rfl ?_
    refine nE_callV (As := [.ref o1, .ref 12, .ref (o2 + 1), .int x5]) yf_X5_gather ⟨by decide, by decide⟩ rfl rfl (sG_0 ho4) rfl vl_X0_64 dX0_search_43 rfl rfl (Nat.le_of_ble_eq_true rfl) (Nat.le_of_ble_eq_true rfl) (nE_mono (fun z7 τ5 h => ?_) h)
    obtain ⟨rfl, h⟩ := h
    refine nE_aload dX0_search_46 rfl ?_
    refine nE_aload_n dX0_search_48 rfl rfl ?_
    refine nE_aload_n dX0_search_49 rfl rfl ?_
    refine nE_callV (As := []) yf_X3_allParts ⟨by decide, by decide⟩ rfl rfl (sP_0 ho1) rfl vl_X0_70 dX0_search_50 rfl rfl (Nat.le_of_ble_eq_true rfl) (Nat.le_of_ble_eq_true rfl) (p_X3_allParts ho1 ?_)
    refine nE_callV (As := [.ref o1, .int ((1 <<< ((τ5.1 o1 1) &&& 31)) - 1)]) yf_X5_run ⟨by decide, by decide⟩ rfl rfl (sG_0 ho4) rfl vl_X0_74 dX0_search_53 rfl rfl (Nat.le_of_ble_eq_true rfl) (Nat.le_of_ble_eq_true rfl) (nE_mono (fun z10 τ8 h => ?_) h)
    obtain ⟨r9, rfl, h⟩ := h
    refine nE_callN (As := [.int r9]) yf_X8_counted ⟨by decide, by decide⟩ rfl nl_X0_77 dX0_search_56 rfl rfl (Nat.le_of_ble_eq_true rfl) (Nat.le_of_ble_eq_true rfl) (p_X8_counted _ ?_)
    refine nE_istore dX0_search_59 rfl (by decide) ?_
    refine nE_aload_n dX0_search_61 rfl rfl ?_
    refine nE_getI fl_X0_49 sC_25 rfl dX0_search_62 ?_
    refine nE_iconst (v := (-1)) dX0_search_65 (by decide) ?_
    refine nE_icmp_eq (tgt := 78) dX0_search_66 (by decide) ⟨fun c11 => ?_, fun c11 => ?_⟩
    · have h := h.1 c11
      refine nE_aload_n dX0_search_78 rfl rfl ?_
      refine nE_iload dX0_search_79 rfl ?_
      refine nE_putI fl_X0_49 sC_25 rfl ⟨rfl, rfl⟩ dX0_search_81 ?_
      refine nE_aload_n dX0_search_84 rfl rfl ?_
      refine nE_getC fl_X0_12 sC_25 rfl dX0_search_85 ?_
      refine nE_getC fl_X0_46 (sL_0 isL_27) rfl dX0_search_88 ?_
      refine nE_iconst (v := 0) dX0_search_91 (by decide) ?_
      refine nE_aload_n dX0_search_92 rfl rfl ?_
      refine nE_getC fl_X0_18 sC_25 rfl dX0_search_93 ?_
      refine nE_iconst (v := 0) dX0_search_96 (by decide) ?_
      refine nE_aload_n dX0_search_97 rfl rfl ?_
      refine nE_getC fl_X0_12 sC_25 rfl dX0_search_98 ?_
      refine nE_getI fl_X0_26 (sL_0 isL_27) rfl dX0_search_101 ?_
      obtain ⟨g12, h⟩ := h
      refine nE_acopy ac_X0_81 (sL_2 isL_27) (sC_26) ⟨by decide, Nat.le_of_ble_eq_true rfl⟩ dX0_search_104 ⟨g12, ?_⟩
      refine nE_aload_n dX0_search_107 rfl rfl ?_
      refine nE_callV (As := []) yf_X0_turnToNext ⟨by decide, by decide⟩ rfl rfl sC_25 rfl vl_X0_87 dX0_search_108 rfl rfl (Nat.le_of_ble_eq_true rfl) (Nat.le_of_ble_eq_true rfl) (nE_mono (fun z15 τ13 h => ?_) h)
      obtain ⟨r14, rfl, h⟩ := h
      refine nE_if_ne (tgt := 117) dX0_search_111 (by decide) ⟨fun c16 => ?_, fun c16 => ?_⟩
      · have h := h.1 c16
        refine nE_iinc (v := x6 + 1) dX0_search_117 rfl rfl (by decide) rfl ?_
        refine nE_goto (tgt := 8) dX0_search_120 (by decide) ?_
        refine nE_weak 7 ?_
        exact h
      · have h := h.2 c16
        refine nE_goto (tgt := 123) dX0_search_114 (by decide) ?_
        exact nE_vret dX0_search_123 rfl h
    · have h := h.2 c11
      refine nE_iload dX0_search_69 rfl ?_
      refine nE_aload_n dX0_search_71 rfl rfl ?_
      refine nE_getI fl_X0_49 sC_25 rfl dX0_search_72 ?_
      refine nE_icmp_ge (tgt := 107) dX0_search_75 (by decide) ⟨fun c17 => ?_, fun c17 => ?_⟩
      · have h := h.1 c17
        refine nE_aload_n dX0_search_107 rfl rfl ?_
        refine nE_callV (As := []) yf_X0_turnToNext ⟨by decide, by decide⟩ rfl rfl sC_25 rfl vl_X0_87 dX0_search_108 rfl rfl (Nat.le_of_ble_eq_true rfl) (Nat.le_of_ble_eq_true rfl) (nE_mono (fun z20 τ18 h => ?_) h)
        obtain ⟨r19, rfl, h⟩ := h
        refine nE_if_ne (tgt := 117) dX0_search_111 (by decide) ⟨fun c21 => ?_, fun c21 => ?_⟩
        · have h := h.1 c21
          refine nE_iinc (v := x6 + 1) dX0_search_117 rfl rfl (by decide) rfl ?_
          refine nE_goto (tgt := 8) dX0_search_120 (by decide) ?_
          refine nE_weak 7 ?_
          exact h
        · have h := h.2 c21
          refine nE_goto (tgt := 123) dX0_search_114 (by decide) ?_
          exact nE_vret dX0_search_123 rfl h
      · have h := h.2 c17
        refine nE_aload_n dX0_search_78 rfl rfl ?_
        refine nE_iload dX0_search_79 rfl ?_
        refine nE_putI fl_X0_49 sC_25 rfl ⟨rfl, rfl⟩ dX0_search_81 ?_
        refine nE_aload_n dX0_search_84 rfl rfl ?_
        refine nE_getC fl_X0_12 sC_25 rfl dX0_search_85 ?_
        refine nE_getC fl_X0_46 (sL_0 isL_27) rfl dX0_search_88 ?_
        refine nE_iconst (v := 0) dX0_search_91 (by decide) ?_
        refine nE_aload_n dX0_search_92 rfl rfl ?_
        refine nE_getC fl_X0_18 sC_25 rfl dX0_search_93 ?_
        refine nE_iconst (v := 0) dX0_search_96 (by decide) ?_
        refine nE_aload_n dX0_search_97 rfl rfl ?_
        refine nE_getC fl_X0_12 sC_25 rfl dX0_search_98 ?_
        refine nE_getI fl_X0_26 (sL_0 isL_27) rfl dX0_search_101 ?_
        obtain ⟨g22, h⟩ := h
        refine nE_acopy ac_X0_81 (sL_2 isL_27) (sC_26) ⟨by decide, Nat.le_of_ble_eq_true rfl⟩ dX0_search_104 ⟨g22, ?_⟩
        refine nE_aload_n dX0_search_107 rfl rfl ?_
        refine nE_callV (As := []) yf_X0_turnToNext ⟨by decide, by decide⟩ rfl rfl sC_25 rfl vl_X0_87 dX0_search_108 rfl rfl (Nat.le_of_ble_eq_true rfl) (Nat.le_of_ble_eq_true rfl) (nE_mono (fun z25 τ23 h => ?_) h)
        obtain ⟨r24, rfl, h⟩ := h
        refine nE_if_ne (tgt := 117) dX0_search_111 (by decide) ⟨fun c26 => ?_, fun c26 => ?_⟩
        · have h := h.1 c26
          refine nE_iinc (v := x6 + 1) dX0_search_117 rfl rfl (by decide) rfl ?_
          refine nE_goto (tgt := 8) dX0_search_120 (by decide) ?_
          refine nE_weak 7 ?_
          exact h
        · have h := h.2 c26
          refine nE_goto (tgt := 123) dX0_search_114 (by decide) ?_
          exact nE_vret dX0_search_123 rfl h
set_option maxRecDepth 20000 in
theorem sg_X0_turnToNext_0  {σ : nh_S} {Q : Option Value → nh_S → Prop} (h : nh_E kX0_turnToNext 22 [none, some (.ref 29), some (.int ((σ.1 27 0) - 1)), some (.int (((σ.1 27 0) - 1) - 1)), none, none, none] [] σ Q) : nh_E kX0_turnToNext 0 [some (.ref 25), none, none, none, none, none, none] [] σ Q := by
  refine nE_aload_n dX0_turnToNext_0 rfl rfl ?_
  refine nE_getC fl_X0_12 sC_25 rfl dX0_turnToNext_1 ?_
  refine nE_getC fl_X0_46 (sL_0 isL_27) rfl dX0_turnToNext_4 ?_
  refine nE_astore_n dX0_turnToNext_7 rfl rfl (by decide) ?_
  refine nE_aload_n dX0_turnToNext_8 rfl rfl ?_
  refine nE_getC fl_X0_12 sC_25 rfl dX0_turnToNext_9 ?_
  refine nE_getI fl_X0_26 (sL_0 isL_27) rfl dX0_turnToNext_12 ?_
  refine nE_iconst (v := 1) dX0_turnToNext_15 (by decide) ?_
  refine nE_isub dX0_turnToNext_16 ?_
  refine nE_istore_n dX0_turnToNext_17 rfl rfl (by decide) ?_
  refine nE_iload_n dX0_turnToNext_18 rfl rfl ?_
  refine nE_iconst (v := 1) dX0_turnToNext_19 (by decide) ?_
  refine nE_isub dX0_turnToNext_20 ?_
  refine nE_istore_n dX0_turnToNext_21 rfl rfl (by decide) ?_
  refine nE_weak 0 ?_
  exact h
set_option maxRecDepth 20000 in
theorem sg_X0_turnToNext_22 (x2 : Int32) (x3 : Int32) {σ : nh_S} {Q : Option Value → nh_S → Prop} (h : (x3 < 0 → ((0 ≤ x3 → (nh_E kX0_turnToNext 52 [none, some (.ref 29), some (.int x2), some (.int x3), some (.int x2), none, none] [] σ Q)) ∧ (¬ (0 ≤ x3) → (Q (some (.int 0)) σ)))) ∧ (¬ (x3 < 0) → ((vp_in x3 20) ∧ (vp_in (x3 + 1) 20) ∧ (σ.2.1 29 x3.toNatClampNeg ≤ σ.2.1 29 ((x3 + 1).toNatClampNeg) → ((0 ≤ x3 → (nh_E kX0_turnToNext 52 [none, some (.ref 29), some (.int x2), some (.int x3), some (.int x2), none, none] [] σ Q)) ∧ (¬ (0 ≤ x3) → (Q (some (.int 0)) σ)))) ∧ (¬ (σ.2.1 29 x3.toNatClampNeg ≤ σ.2.1 29 ((x3 + 1).toNatClampNeg)) → (nh_E kX0_turnToNext 22 [none, some (.ref 29), some (.int x2), some (.int (x3 + (-1))), none, none, none] [] σ Q))))) : nh_E kX0_turnToNext 22 [none, some (.ref 29), some (.int x2), some (.int x3), none, none, none] [] σ Q := by
  refine nE_iload_n dX0_turnToNext_22 rfl rfl ?_
  refine nE_if_lt (tgt := 43) dX0_turnToNext_23 (by decide) ⟨fun c1 => ?_, fun c1 => ?_⟩
  · have h := h.1 c1
    refine nE_iload_n dX0_turnToNext_43 rfl rfl ?_
    refine nE_if_ge (tgt := 49) dX0_turnToNext_44 (by decide) ⟨fun c2 => ?_, fun c2 => ?_⟩
    · have h := h.1 c2
      refine nE_iload_n dX0_turnToNext_49 rfl rfl ?_
      refine nE_istore dX0_turnToNext_50 rfl (by decide) ?_
      exact h
    · have h := h.2 c2
      refine nE_iconst (v := 0) dX0_turnToNext_47 (by decide) ?_
      exact nE_zret (ty := .boolean) dX0_turnToNext_48 rfl (by decide) h
  · have h := h.2 c1
    refine nE_aload_n dX0_turnToNext_26 rfl rfl ?_
    refine nE_iload_n dX0_turnToNext_27 rfl rfl ?_
    obtain ⟨g3, h⟩ := h
    refine nG_iald (j := x3.toNatClampNeg) (sL_2 isL_27) rfl dX0_turnToNext_28 ⟨g3, ?_⟩
    refine nE_aload_n dX0_turnToNext_29 rfl rfl ?_
    refine nE_iload_n dX0_turnToNext_30 rfl rfl ?_
    refine nE_iconst (v := 1) dX0_turnToNext_31 (by decide) ?_
    refine nE_iadd dX0_turnToNext_32 ?_
    obtain ⟨g4, h⟩ := h
    refine nG_iald (j := (x3 + 1).toNatClampNeg) (sL_2 isL_27) rfl dX0_turnToNext_33 ⟨g4, ?_⟩
    refine nE_icmp_le (tgt := 43) dX0_turnToNext_34 (by decide) ⟨fun c5 => ?_, fun c5 => ?_⟩
    · have h := h.1 c5
      refine nE_iload_n dX0_turnToNext_43 rfl rfl ?_
      refine nE_if_ge (tgt := 49) dX0_turnToNext_44 (by decide) ⟨fun c6 => ?_, fun c6 => ?_⟩
      · have h := h.1 c6
        refine nE_iload_n dX0_turnToNext_49 rfl rfl ?_
        refine nE_istore dX0_turnToNext_50 rfl (by decide) ?_
        exact h
      · have h := h.2 c6
        refine nE_iconst (v := 0) dX0_turnToNext_47 (by decide) ?_
        exact nE_zret (ty := .boolean) dX0_turnToNext_48 rfl (by decide) h
    · have h := h.2 c5
      refine nE_iinc (v := x3 + (-1)) dX0_turnToNext_37 rfl rfl (by decide) rfl ?_
      refine nE_goto (tgt := 22) dX0_turnToNext_40 (by decide) ?_
      exact h
set_option maxRecDepth 20000 in
theorem sg_X0_turnToNext_52 (x2 : Int32) (x3 : Int32) (x4 : Int32) {σ : nh_S} {Q : Option Value → nh_S → Prop} (h : (x4 ≤ x3 → (nh_E kX8_swap 0 [some (.ref 29), some (.int x3), some (.int x4), none] [] σ (nh_qv fun τ2 => nh_E kX0_turnToNext 89 [none, some (.ref 29), none, none, none, some (.int (x3 + 1)), some (.int x2)] [] τ2 Q))) ∧ (¬ (x4 ≤ x3) → ((vp_in x4 20) ∧ (vp_in x3 20) ∧ (σ.2.1 29 x3.toNatClampNeg ≤ σ.2.1 29 x4.toNatClampNeg → (nh_E kX8_swap 0 [some (.ref 29), some (.int x3), some (.int x4), none] [] σ (nh_qv fun τ8 => nh_E kX0_turnToNext 89 [none, some (.ref 29), none, none, none, some (.int (x3 + 1)), some (.int x2)] [] τ8 Q))) ∧ (¬ (σ.2.1 29 x3.toNatClampNeg ≤ σ.2.1 29 x4.toNatClampNeg) → (nh_E kX0_turnToNext 52 [none, some (.ref 29), some (.int x2), some (.int x3), some (.int (x4 + (-1))), none, none] [] σ Q))))) : nh_E kX0_turnToNext 52 [none, some (.ref 29), some (.int x2), some (.int x3), some (.int x4), none, none] [] σ Q := by
  refine nE_iload dX0_turnToNext_52 rfl ?_
  refine nE_iload_n dX0_turnToNext_54 rfl rfl ?_
  refine nE_icmp_le (tgt := 74) dX0_turnToNext_55 (by decide) ⟨fun c1 => ?_, fun c1 => ?_⟩
  · have h := h.1 c1
    refine nE_aload_n dX0_turnToNext_74 rfl rfl ?_
    refine nE_iload_n dX0_turnToNext_75 rfl rfl ?_
    refine nE_iload dX0_turnToNext_76 rfl ?_
    refine nE_callN (As := [.ref 29, .int x3, .int x4]) yf_X8_swap ⟨by decide, by decide⟩ rfl nl_X0_91 dX0_turnToNext_78 rfl rfl (Nat.le_of_ble_eq_true rfl) (Nat.le_of_ble_eq_true rfl) (nE_mono (fun z4 τ2 h => ?_) h)
    obtain ⟨rfl, h⟩ := h
    refine nE_iload_n dX0_turnToNext_81 rfl rfl ?_
    refine nE_iconst (v := 1) dX0_turnToNext_82 (by decide) ?_
    refine nE_iadd dX0_turnToNext_83 ?_
    refine nE_istore dX0_turnToNext_84 rfl (by decide) ?_
    refine nE_iload_n dX0_turnToNext_86 rfl rfl ?_
    refine nE_istore dX0_turnToNext_87 rfl (by decide) ?_
    refine nE_weak 2 ?_
    refine nE_weak 3 ?_
    refine nE_weak 4 ?_
    exact h
  · have h := h.2 c1
    refine nE_aload_n dX0_turnToNext_58 rfl rfl ?_
    refine nE_iload dX0_turnToNext_59 rfl ?_
    obtain ⟨g5, h⟩ := h
    refine nG_iald (j := x4.toNatClampNeg) (sL_2 isL_27) rfl dX0_turnToNext_61 ⟨g5, ?_⟩
    refine nE_aload_n dX0_turnToNext_62 rfl rfl ?_
    refine nE_iload_n dX0_turnToNext_63 rfl rfl ?_
    obtain ⟨g6, h⟩ := h
    refine nG_iald (j := x3.toNatClampNeg) (sL_2 isL_27) rfl dX0_turnToNext_64 ⟨g6, ?_⟩
    refine nE_icmp_ge (tgt := 74) dX0_turnToNext_65 (by decide) ⟨fun c7 => ?_, fun c7 => ?_⟩
    · have h := h.1 c7
      refine nE_aload_n dX0_turnToNext_74 rfl rfl ?_
      refine nE_iload_n dX0_turnToNext_75 rfl rfl ?_
      refine nE_iload dX0_turnToNext_76 rfl ?_
      refine nE_callN (As := [.ref 29, .int x3, .int x4]) yf_X8_swap ⟨by decide, by decide⟩ rfl nl_X0_91 dX0_turnToNext_78 rfl rfl (Nat.le_of_ble_eq_true rfl) (Nat.le_of_ble_eq_true rfl) (nE_mono (fun z10 τ8 h => ?_) h)
      obtain ⟨rfl, h⟩ := h
      refine nE_iload_n dX0_turnToNext_81 rfl rfl ?_
      refine nE_iconst (v := 1) dX0_turnToNext_82 (by decide) ?_
      refine nE_iadd dX0_turnToNext_83 ?_
      refine nE_istore dX0_turnToNext_84 rfl (by decide) ?_
      refine nE_iload_n dX0_turnToNext_86 rfl rfl ?_
      refine nE_istore dX0_turnToNext_87 rfl (by decide) ?_
      refine nE_weak 2 ?_
      refine nE_weak 3 ?_
      refine nE_weak 4 ?_
      exact h
    · have h := h.2 c7
      refine nE_iinc (v := x4 + (-1)) dX0_turnToNext_68 rfl rfl (by decide) rfl ?_
      refine nE_goto (tgt := 52) dX0_turnToNext_71 (by decide) ?_
      exact h
set_option maxRecDepth 20000 in
theorem sg_X0_turnToNext_89 (x5 : Int32) (x6 : Int32) {σ : nh_S} {Q : Option Value → nh_S → Prop} (h : (x6 ≤ x5 → (Q (some (.int 1)) σ)) ∧ (¬ (x6 ≤ x5) → (nh_E kX8_swap 0 [some (.ref 29), some (.int x5), some (.int x6), none] [] σ (nh_qv fun τ2 => nh_E kX0_turnToNext 89 [none, some (.ref 29), none, none, none, some (.int (x5 + 1)), some (.int (x6 + (-1)))] [] τ2 Q)))) : nh_E kX0_turnToNext 89 [none, some (.ref 29), none, none, none, some (.int x5), some (.int x6)] [] σ Q := by
  refine nE_iload dX0_turnToNext_89 rfl ?_
  refine nE_iload dX0_turnToNext_91 rfl ?_
  refine nE_icmp_ge (tgt := 113) dX0_turnToNext_93 (by decide) ⟨fun c1 => ?_, fun c1 => ?_⟩
  · have h := h.1 c1
    refine nE_iconst (v := 1) dX0_turnToNext_113 (by decide) ?_
    exact nE_zret (ty := .boolean) dX0_turnToNext_114 rfl (by decide) h
  · have h := h.2 c1
    refine nE_aload_n dX0_turnToNext_96 rfl rfl ?_
    refine nE_iload dX0_turnToNext_97 rfl ?_
    refine nE_iload dX0_turnToNext_99 rfl ?_
    refine nE_callN (As := [.ref 29, .int x5, .int x6]) yf_X8_swap ⟨by decide, by decide⟩ rfl nl_X0_91 dX0_turnToNext_101 rfl rfl (Nat.le_of_ble_eq_true rfl) (Nat.le_of_ble_eq_true rfl) (nE_mono (fun z4 τ2 h => ?_) h)
    obtain ⟨rfl, h⟩ := h
    refine nE_iinc (v := x5 + 1) dX0_turnToNext_104 rfl rfl (by decide) rfl ?_
    refine nE_iinc (v := x6 + (-1)) dX0_turnToNext_107 rfl rfl (by decide) rfl ?_
    refine nE_goto (tgt := 89) dX0_turnToNext_110 (by decide) ?_
    exact h
set_option maxRecDepth 20000 in
theorem sg_X1_find_0 {o1 : Nat} (ho1 : isP o1) {a3 n3 : Nat} (ha3 : shC[a3]? = some (.inl (.int, n3, none))) (x4 : Int32) {σ : nh_S} {Q : Option Value → nh_S → Prop} (h : (¬ (0 : Int32) < 0 ∧ ¬ (0 : Int32) < 0 ∧ ¬ (12 : Int32) < 0 ∧ (0 : Int32).toNatClampNeg + (12 : Int32).toNatClampNeg ≤ n3 ∧ (0 : Int32).toNatClampNeg + (12 : Int32).toNatClampNeg ≤ 12) ∧ nh_E kX1_find 21 [some (.ref 83), some (.ref o1), some (.ref 12), none, none, some (.int 0), none] [] (nh_cp (nh_si σ 83 7 x4) a3 86 ((0 : Int32).toNatClampNeg) ((0 : Int32).toNatClampNeg) ((12 : Int32).toNatClampNeg)) Q) : nh_E kX1_find 0 [some (.ref 83), some (.ref o1), some (.ref 12), some (.ref a3), some (.int x4), none, none] [] σ Q := by
  refine nE_aload_n dX1_find_0 rfl rfl ?_
  refine nE_iload dX1_find_1 rfl ?_
  refine nE_putI fl_X1_36 sC_83 rfl ⟨rfl, rfl⟩ dX1_find_3 ?_
  refine nE_aload_n dX1_find_6 rfl rfl ?_
  refine nE_iconst (v := 0) dX1_find_7 (by decide) ?_
  refine nE_aload_n dX1_find_8 rfl rfl ?_
  refine nE_getC fl_X1_18 sC_83 rfl dX1_find_9 ?_
  refine nE_iconst (v := 0) dX1_find_12 (by decide) ?_
  refine nE_bipush (v := 12) dX1_find_13 (by decide) ?_
  obtain ⟨g1, h⟩ := h
  refine nE_acopy ac_X1_40 (ha3) (sC_86) ⟨by decide, Nat.le_of_ble_eq_true rfl⟩ dX1_find_15 ⟨g1, ?_⟩
  refine nE_iconst (v := 0) dX1_find_18 (by decide) ?_
  refine nE_istore dX1_find_19 rfl (by decide) ?_
  refine nE_weak 3 ?_
  refine nE_weak 4 ?_
  exact h
set_option maxRecDepth 20000 in
theorem sg_X1_find_21 {o1 : Nat} (ho1 : isP o1) {a3 n3 : Nat} (ha3 : shC[a3]? = some (.inl (.int, n3, none))) (x5 : Int32) {σ : nh_S} {Q : Option Value → nh_S → Prop} (h : (σ.1 o1 0 ≤ x5 → (nh_E kX1_isInTime 0 [some (.ref 83), some (.ref o1), none, none] [] σ (nh_qi fun r3 τ2 => (r3 = 0 → (nh_E kX1_moveOne 0 [some (.ref 83), some (.ref o1), some (.int 0), some (.int 0), none, none, none] [] τ2 (nh_qi fun r7 τ6 => (r7 = 0 → (nh_E kX1_moveTwo 0 [some (.ref 83), some (.ref o1), none, none, none] [] τ6 (nh_qi fun r11 τ10 => Q none (nh_si τ10 83 0 (if r11 = 0 then (-1) else 2))))) ∧ (¬ (r7 = 0) → (Q none (nh_si τ6 83 0 1)))))) ∧ (¬ (r3 = 0) → (Q none (nh_si τ2 83 0 0)))))) ∧ (¬ (σ.1 o1 0 ≤ x5) → ((vp_in x5 9) ∧ nh_E kX1_find 42 [some (.ref 83), some (.ref o1), some (.ref 12), none, none, some (.int x5), some (.int 0)] [] (nh_wa σ 97 x5.toNatClampNeg x5) Q))) : nh_E kX1_find 21 [some (.ref 83), some (.ref o1), some (.ref 12), none, none, some (.int x5), none] [] σ Q := by
  refine nE_iload dX1_find_21 rfl ?_
  refine nE_aload_n dX1_find_23 rfl rfl ?_
  refine nE_getI fl_X1_46 (sP_0 ho1) rfl dX1_find_24 ?_
  refine nE_icmp_ge (tgt := 82) dX1_find_27 (by decide) ⟨fun c1 => ?_, fun c1 => ?_⟩
  · have h := h.1 c1
    refine nE_aload_n dX1_find_82 rfl rfl ?_
    refine nE_aload_n dX1_find_83 rfl rfl ?_
    refine nE_callV (As := [.ref o1]) yf_X1_isInTime ⟨by decide, by decide⟩ rfl rfl sC_83 rfl vl_X1_57 dX1_find_84 rfl rfl (Nat.le_of_ble_eq_true rfl) (Nat.le_of_ble_eq_true rfl) (nE_mono (fun z4 τ2 h => ?_) h)
    obtain ⟨r3, rfl, h⟩ := h
    refine nE_if_eq (tgt := 98) dX1_find_87 (by decide) ⟨fun c5 => ?_, fun c5 => ?_⟩
    · have h := h.1 c5
      refine nE_aload_n dX1_find_98 rfl rfl ?_
      refine nE_aload_n dX1_find_99 rfl rfl ?_
      refine nE_iconst (v := 0) dX1_find_100 (by decide) ?_
      refine nE_iconst (v := 0) dX1_find_101 (by decide) ?_
      refine nE_callV (As := [.ref o1, .int 0, .int 0]) yf_X1_moveOne ⟨by decide, by decide⟩ rfl rfl sC_83 rfl vl_X1_64 dX1_find_102 rfl rfl (Nat.le_of_ble_eq_true rfl) (Nat.le_of_ble_eq_true rfl) (nE_mono (fun z8 τ6 h => ?_) h)
      obtain ⟨r7, rfl, h⟩ := h
      refine nE_if_eq (tgt := 116) dX1_find_105 (by decide) ⟨fun c9 => ?_, fun c9 => ?_⟩
      · have h := h.1 c9
        refine nE_aload_n dX1_find_116 rfl rfl ?_
        refine nE_aload_n dX1_find_117 rfl rfl ?_
        refine nE_aload_n dX1_find_118 rfl rfl ?_
        refine nE_callV (As := [.ref o1]) yf_X1_moveTwo ⟨by decide, by decide⟩ rfl rfl sC_83 rfl vl_X1_68 dX1_find_119 rfl rfl (Nat.le_of_ble_eq_true rfl) (Nat.le_of_ble_eq_true rfl) (nE_mono (fun z12 τ10 h => ?_) h)
        obtain ⟨r11, rfl, h⟩ := h
        have j13 : nh_E kX1_find 130 [some (.ref 83), some (.ref o1), some (.ref 12), none, none, some (.int x5), none] [.int (if r11 = 0 then (-1) else 2), .ref 83] τ10 Q := by
          refine nE_putI fl_X1_61 sC_83 rfl ⟨rfl, rfl⟩ dX1_find_130 ?_
          exact nE_vret dX1_find_133 rfl h
        refine nE_if_eq (tgt := 129) dX1_find_122 (by decide) ⟨fun c14 => ?_, fun c14 => ?_⟩
        · skip
          have f15 : (r11 = 0) = True := eq_true c14
          refine nE_iconst (v := (-1)) dX1_find_129 (by decide) ?_
          exact nh_topi (show ((if r11 = 0 then (-1) else 2) : Int32) = (-1) from by simp only [if_true, if_false, not_true_eq_false, not_false_eq_true, true_and, and_true, false_and, and_false, true_or, or_true, false_or, or_false, if_pos, if_neg, ite_true, ite_false, f15]) j13
        · skip
          have f16 : (r11 = 0) = False := eq_false c14
          refine nE_iconst (v := 2) dX1_find_125 (by decide) ?_
          refine nE_goto (tgt := 130) dX1_find_126 (by decide) ?_
          exact nh_topi (show ((if r11 = 0 then (-1) else 2) : Int32) = 2 from by simp only [if_true, if_false, not_true_eq_false, not_false_eq_true, true_and, and_true, false_and, and_false, true_or, or_true, false_or, or_false, if_pos, if_neg, ite_true, ite_false, f16]) j13
      · have h := h.2 c9
        refine nE_aload_n dX1_find_108 rfl rfl ?_
        refine nE_iconst (v := 1) dX1_find_109 (by decide) ?_
        refine nE_putI fl_X1_61 sC_83 rfl ⟨rfl, rfl⟩ dX1_find_110 ?_
        refine nE_goto (tgt := 133) dX1_find_113 (by decide) ?_
        exact nE_vret dX1_find_133 rfl h
    · have h := h.2 c5
      refine nE_aload_n dX1_find_90 rfl rfl ?_
      refine nE_iconst (v := 0) dX1_find_91 (by decide) ?_
      refine nE_putI fl_X1_61 sC_83 rfl ⟨rfl, rfl⟩ dX1_find_92 ?_
      refine nE_goto (tgt := 133) dX1_find_95 (by decide) ?_
      exact nE_vret dX1_find_133 rfl h
  · have h := h.2 c1
    refine nE_aload_n dX1_find_30 rfl rfl ?_
    refine nE_getC fl_X1_26 sC_83 rfl dX1_find_31 ?_
    refine nE_iload dX1_find_34 rfl ?_
    refine nE_iload dX1_find_36 rfl ?_
    obtain ⟨g17, h⟩ := h
    refine nG_iast (j := x5.toNatClampNeg) sC_97 rfl dX1_find_38 ⟨g17, ?_⟩
    refine nE_iconst (v := 0) dX1_find_39 (by decide) ?_
    refine nE_istore dX1_find_40 rfl (by decide) ?_
    exact h
set_option maxRecDepth 20000 in
theorem sg_X1_find_42 {o1 : Nat} (ho1 : isP o1) {a3 n3 : Nat} (ha3 : shC[a3]? = some (.inl (.int, n3, none))) (x5 : Int32) (x6 : Int32) {σ : nh_S} {Q : Option Value → nh_S → Prop} (h : (σ.1 o1 0 ≤ x6 → (nh_E kX1_find 21 [some (.ref 83), some (.ref o1), some (.ref 12), none, none, some (.int (x5 + 1)), none] [] σ Q)) ∧ (¬ (σ.1 o1 0 ≤ x6) → ((vp_in x5 9) ∧ nh_E kX7_arrival 0 [some (.ref 12), some (.ref o1), some (.int x6), some (.int x5)] [] σ (nh_qi fun r4 τ3 => (vp_in x6 9) ∧ nh_E kX1_find 42 [some (.ref 83), some (.ref o1), some (.ref 12), none, none, some (.int x5), some (.int (x6 + 1))] [] (nh_wa τ3 (88 + x5.toNatClampNeg) x6.toNatClampNeg r4) Q)))) : nh_E kX1_find 42 [some (.ref 83), some (.ref o1), some (.ref 12), none, none, some (.int x5), some (.int x6)] [] σ Q := by
  refine nE_iload dX1_find_42 rfl ?_
  refine nE_aload_n dX1_find_44 rfl rfl ?_
  refine nE_getI fl_X1_46 (sP_0 ho1) rfl dX1_find_45 ?_
  refine nE_icmp_ge (tgt := 76) dX1_find_48 (by decide) ⟨fun c1 => ?_, fun c1 => ?_⟩
  · have h := h.1 c1
    refine nE_iinc (v := x5 + 1) dX1_find_76 rfl rfl (by decide) rfl ?_
    refine nE_goto (tgt := 21) dX1_find_79 (by decide) ?_
    refine nE_weak 6 ?_
    exact h
  · have h := h.2 c1
    refine nE_aload_n dX1_find_51 rfl rfl ?_
    refine nE_getC fl_X1_23 sC_83 rfl dX1_find_52 ?_
    refine nE_iload dX1_find_55 rfl ?_
    obtain ⟨g2, h⟩ := h
    refine nG_aald (j := x5.toNatClampNeg) sC_87 rfl dX1_find_57 ⟨g2, ?_⟩
    refine nE_iload dX1_find_58 rfl ?_
    refine nE_aload_n dX1_find_60 rfl rfl ?_
    refine nE_aload_n dX1_find_61 rfl rfl ?_
    refine nE_iload dX1_find_62 rfl ?_
    refine nE_iload dX1_find_64 rfl ?_
    refine nE_callV (As := [.ref o1, .int x6, .int x5]) yf_X7_arrival ⟨by decide, by decide⟩ rfl rfl sC_12 rfl vl_X1_51 dX1_find_66 rfl rfl (Nat.le_of_ble_eq_true rfl) (Nat.le_of_ble_eq_true rfl) (nE_mono (fun z5 τ3 h => ?_) h)
    obtain ⟨r4, rfl, h⟩ := h
    obtain ⟨g6, h⟩ := h
    refine nG_iast (j := x6.toNatClampNeg) (sM_r g2) rfl dX1_find_69 ⟨g6, ?_⟩
    refine nE_iinc (v := x6 + 1) dX1_find_70 rfl rfl (by decide) rfl ?_
    refine nE_goto (tgt := 42) dX1_find_73 (by decide) ?_
    exact h
set_option maxRecDepth 20000 in
theorem sg_X1_moveOne_0 {o1 : Nat} (ho1 : isP o1) (x2 : Int32) (x3 : Int32) {σ : nh_S} {Q : Option Value → nh_S → Prop} (h : nh_E kX1_moveOne 3 [some (.ref 83), some (.ref o1), some (.int x2), none, some (.int x3), none, none] [] σ Q) : nh_E kX1_moveOne 0 [some (.ref 83), some (.ref o1), some (.int x2), some (.int x3), none, none, none] [] σ Q := by
  refine nE_iload_n dX1_moveOne_0 rfl rfl ?_
  refine nE_istore dX1_moveOne_1 rfl (by decide) ?_
  refine nE_weak 3 ?_
  exact h
set_option maxRecDepth 20000 in
theorem sg_X1_moveOne_3 {o1 : Nat} (ho1 : isP o1) (x2 : Int32) (x4 : Int32) {σ : nh_S} {Q : Option Value → nh_S → Prop} (h : (σ.1 o1 1 ≤ x4 → (Q (some (.int 0)) σ)) ∧ (¬ (σ.1 o1 1 ≤ x4) → ((vp_in x4 12) ∧ nh_E kX1_moveOne 24 [some (.ref 83), some (.ref o1), some (.int x2), none, some (.int x4), some (.int (σ.2.1 86 x4.toNatClampNeg)), some (.int 0)] [] σ Q))) : nh_E kX1_moveOne 3 [some (.ref 83), some (.ref o1), some (.int x2), none, some (.int x4), none, none] [] σ Q := by
  refine nE_iload dX1_moveOne_3 rfl ?_
  refine nE_aload_n dX1_moveOne_5 rfl rfl ?_
  refine nE_getI fl_X1_71 (sP_0 ho1) rfl dX1_moveOne_6 ?_
  refine nE_icmp_ge (tgt := 89) dX1_moveOne_9 (by decide) ⟨fun c1 => ?_, fun c1 => ?_⟩
  · have h := h.1 c1
    refine nE_iconst (v := 0) dX1_moveOne_89 (by decide) ?_
    exact nE_zret (ty := .boolean) dX1_moveOne_90 rfl (by decide) h
  · have h := h.2 c1
    refine nE_aload_n dX1_moveOne_12 rfl rfl ?_
    refine nE_getC fl_X1_18 sC_83 rfl dX1_moveOne_13 ?_
    refine nE_iload dX1_moveOne_16 rfl ?_
    obtain ⟨g2, h⟩ := h
    refine nG_iald (j := x4.toNatClampNeg) sC_86 rfl dX1_moveOne_18 ⟨g2, ?_⟩
    refine nE_istore dX1_moveOne_19 rfl (by decide) ?_
    refine nE_iconst (v := 0) dX1_moveOne_21 (by decide) ?_
    refine nE_istore dX1_moveOne_22 rfl (by decide) ?_
    exact h
set_option maxRecDepth 20000 in
theorem sg_X1_moveOne_24 {o1 : Nat} (ho1 : isP o1) (x2 : Int32) (x4 : Int32) (x5 : Int32) (x6 : Int32) {σ : nh_S} {Q : Option Value → nh_S → Prop} (h : (σ.1 o1 0 ≤ x6 → ((vp_in x4 12) ∧ nh_E kX1_moveOne 3 [some (.ref 83), some (.ref o1), some (.int x2), none, some (.int (x4 + 1)), none, none] [] (nh_wa σ 86 x4.toNatClampNeg x5) Q)) ∧ (¬ (σ.1 o1 0 ≤ x6) → ((vp_in x4 12) ∧ (x6 = x5 → (nh_E kX1_moveOne 24 [some (.ref 83), some (.ref o1), some (.int x2), none, some (.int x4), some (.int x5), some (.int (x6 + 1))] [] (nh_wa σ 86 x4.toNatClampNeg x6) Q)) ∧ (¬ (x6 = x5) → (nh_E kX1_isInTime 0 [some (.ref 83), some (.ref o1), none, none] [] (nh_wa σ 86 x4.toNatClampNeg x6) (nh_qi fun r6 τ5 => (r6 = 0 → (nh_E kX1_moveOne 24 [some (.ref 83), some (.ref o1), some (.int x2), none, some (.int x4), some (.int x5), some (.int (x6 + 1))] [] τ5 Q)) ∧ (¬ (r6 = 0) → (nh_E kX1_hold 0 [some (.ref 83), some (.int x2), some (.int x4), some (.int x6)] [] τ5 (nh_qv fun τ9 => Q (some (.int 1)) τ9))))))))) : nh_E kX1_moveOne 24 [some (.ref 83), some (.ref o1), some (.int x2), none, some (.int x4), some (.int x5), some (.int x6)] [] σ Q := by
  refine nE_iload dX1_moveOne_24 rfl ?_
  refine nE_aload_n dX1_moveOne_26 rfl rfl ?_
  refine nE_getI fl_X1_46 (sP_0 ho1) rfl dX1_moveOne_27 ?_
  refine nE_icmp_ge (tgt := 74) dX1_moveOne_30 (by decide) ⟨fun c1 => ?_, fun c1 => ?_⟩
  · have h := h.1 c1
    refine nE_aload_n dX1_moveOne_74 rfl rfl ?_
    refine nE_getC fl_X1_18 sC_83 rfl dX1_moveOne_75 ?_
    refine nE_iload dX1_moveOne_78 rfl ?_
    refine nE_iload dX1_moveOne_80 rfl ?_
    obtain ⟨g2, h⟩ := h
    refine nG_iast (j := x4.toNatClampNeg) sC_86 rfl dX1_moveOne_82 ⟨g2, ?_⟩
    refine nE_iinc (v := x4 + 1) dX1_moveOne_83 rfl rfl (by decide) rfl ?_
    refine nE_goto (tgt := 3) dX1_moveOne_86 (by decide) ?_
    refine nE_weak 5 ?_
    refine nE_weak 6 ?_
    exact h
  · have h := h.2 c1
    refine nE_aload_n dX1_moveOne_33 rfl rfl ?_
    refine nE_getC fl_X1_18 sC_83 rfl dX1_moveOne_34 ?_
    refine nE_iload dX1_moveOne_37 rfl ?_
    refine nE_iload dX1_moveOne_39 rfl ?_
    obtain ⟨g3, h⟩ := h
    refine nG_iast (j := x4.toNatClampNeg) sC_86 rfl dX1_moveOne_41 ⟨g3, ?_⟩
    refine nE_iload dX1_moveOne_42 rfl ?_
    refine nE_iload dX1_moveOne_44 rfl ?_
    refine nE_icmp_eq (tgt := 68) dX1_moveOne_46 (by decide) ⟨fun c4 => ?_, fun c4 => ?_⟩
    · have h := h.1 c4
      refine nE_iinc (v := x6 + 1) dX1_moveOne_68 rfl rfl (by decide) rfl ?_
      refine nE_goto (tgt := 24) dX1_moveOne_71 (by decide) ?_
      exact h
    · have h := h.2 c4
      refine nE_aload_n dX1_moveOne_49 rfl rfl ?_
      refine nE_aload_n dX1_moveOne_50 rfl rfl ?_
      refine nE_callV (As := [.ref o1]) yf_X1_isInTime ⟨by decide, by decide⟩ rfl rfl sC_83 rfl vl_X1_57 dX1_moveOne_51 rfl rfl (Nat.le_of_ble_eq_true rfl) (Nat.le_of_ble_eq_true rfl) (nE_mono (fun z7 τ5 h => ?_) h)
      obtain ⟨r6, rfl, h⟩ := h
      refine nE_if_eq (tgt := 68) dX1_moveOne_54 (by decide) ⟨fun c8 => ?_, fun c8 => ?_⟩
      · have h := h.1 c8
        refine nE_iinc (v := x6 + 1) dX1_moveOne_68 rfl rfl (by decide) rfl ?_
        refine nE_goto (tgt := 24) dX1_moveOne_71 (by decide) ?_
        exact h
      · have h := h.2 c8
        refine nE_aload_n dX1_moveOne_57 rfl rfl ?_
        refine nE_iload_n dX1_moveOne_58 rfl rfl ?_
        refine nE_iload dX1_moveOne_59 rfl ?_
        refine nE_iload dX1_moveOne_61 rfl ?_
        refine nE_callV (As := [.int x2, .int x4, .int x6]) yf_X1_hold ⟨by decide, by decide⟩ rfl rfl sC_83 rfl vl_X1_74 dX1_moveOne_63 rfl rfl (Nat.le_of_ble_eq_true rfl) (Nat.le_of_ble_eq_true rfl) (nE_mono (fun z11 τ9 h => ?_) h)
        obtain ⟨rfl, h⟩ := h
        refine nE_iconst (v := 1) dX1_moveOne_66 (by decide) ?_
        exact nE_zret (ty := .boolean) dX1_moveOne_67 rfl (by decide) h
set_option maxRecDepth 20000 in
theorem sg_X1_moveTwo_0 {o1 : Nat} (ho1 : isP o1) {σ : nh_S} {Q : Option Value → nh_S → Prop} (h : nh_E kX1_moveTwo 2 [some (.ref 83), some (.ref o1), some (.int 0), none, none] [] σ Q) : nh_E kX1_moveTwo 0 [some (.ref 83), some (.ref o1), none, none, none] [] σ Q := by
  refine nE_iconst (v := 0) dX1_moveTwo_0 (by decide) ?_
  refine nE_istore_n dX1_moveTwo_1 rfl rfl (by decide) ?_
  exact h
set_option maxRecDepth 20000 in
theorem sg_X1_moveTwo_2 {o1 : Nat} (ho1 : isP o1) (x2 : Int32) {σ : nh_S} {Q : Option Value → nh_S → Prop} (h : (σ.1 o1 1 ≤ x2 → (Q (some (.int 0)) σ)) ∧ (¬ (σ.1 o1 1 ≤ x2) → ((vp_in x2 12) ∧ nh_E kX1_moveTwo 20 [some (.ref 83), some (.ref o1), some (.int x2), some (.int (σ.2.1 86 x2.toNatClampNeg)), some (.int 0)] [] σ Q))) : nh_E kX1_moveTwo 2 [some (.ref 83), some (.ref o1), some (.int x2), none, none] [] σ Q := by
  refine nE_iload_n dX1_moveTwo_2 rfl rfl ?_
  refine nE_aload_n dX1_moveTwo_3 rfl rfl ?_
  refine nE_getI fl_X1_71 (sP_0 ho1) rfl dX1_moveTwo_4 ?_
  refine nE_icmp_ge (tgt := 84) dX1_moveTwo_7 (by decide) ⟨fun c1 => ?_, fun c1 => ?_⟩
  · have h := h.1 c1
    refine nE_iconst (v := 0) dX1_moveTwo_84 (by decide) ?_
    exact nE_zret (ty := .boolean) dX1_moveTwo_85 rfl (by decide) h
  · have h := h.2 c1
    refine nE_aload_n dX1_moveTwo_10 rfl rfl ?_
    refine nE_getC fl_X1_18 sC_83 rfl dX1_moveTwo_11 ?_
    refine nE_iload_n dX1_moveTwo_14 rfl rfl ?_
    obtain ⟨g2, h⟩ := h
    refine nG_iald (j := x2.toNatClampNeg) sC_86 rfl dX1_moveTwo_15 ⟨g2, ?_⟩
    refine nE_istore_n dX1_moveTwo_16 rfl rfl (by decide) ?_
    refine nE_iconst (v := 0) dX1_moveTwo_17 (by decide) ?_
    refine nE_istore dX1_moveTwo_18 rfl (by decide) ?_
    exact h
set_option maxRecDepth 20000 in
theorem sg_X1_moveTwo_20 {o1 : Nat} (ho1 : isP o1) (x2 : Int32) (x3 : Int32) (x4 : Int32) {σ : nh_S} {Q : Option Value → nh_S → Prop} (h : (σ.1 o1 0 ≤ x4 → ((vp_in x2 12) ∧ nh_E kX1_moveTwo 2 [some (.ref 83), some (.ref o1), some (.int (x2 + 1)), none, none] [] (nh_wa σ 86 x2.toNatClampNeg x3) Q)) ∧ (¬ (σ.1 o1 0 ≤ x4) → ((vp_in x2 12) ∧ (x4 = x3 → (nh_E kX1_moveTwo 20 [some (.ref 83), some (.ref o1), some (.int x2), some (.int x3), some (.int (x4 + 1))] [] (nh_wa σ 86 x2.toNatClampNeg x4) Q)) ∧ (¬ (x4 = x3) → (nh_E kX1_moveOne 0 [some (.ref 83), some (.ref o1), some (.int 1), some (.int (x2 + 1)), none, none, none] [] (nh_wa σ 86 x2.toNatClampNeg x4) (nh_qi fun r6 τ5 => (r6 = 0 → (nh_E kX1_moveTwo 20 [some (.ref 83), some (.ref o1), some (.int x2), some (.int x3), some (.int (x4 + 1))] [] τ5 Q)) ∧ (¬ (r6 = 0) → (nh_E kX1_hold 0 [some (.ref 83), some (.int 0), some (.int x2), some (.int x4)] [] τ5 (nh_qv fun τ9 => Q (some (.int 1)) τ9))))))))) : nh_E kX1_moveTwo 20 [some (.ref 83), some (.ref o1), some (.int x2), some (.int x3), some (.int x4)] [] σ Q := by
  refine nE_iload dX1_moveTwo_20 rfl ?_
  refine nE_aload_n dX1_moveTwo_22 rfl rfl ?_
  refine nE_getI fl_X1_46 (sP_0 ho1) rfl dX1_moveTwo_23 ?_
  refine nE_icmp_ge (tgt := 71) dX1_moveTwo_26 (by decide) ⟨fun c1 => ?_, fun c1 => ?_⟩
  · have h := h.1 c1
    refine nE_aload_n dX1_moveTwo_71 rfl rfl ?_
    refine nE_getC fl_X1_18 sC_83 rfl dX1_moveTwo_72 ?_
    refine nE_iload_n dX1_moveTwo_75 rfl rfl ?_
    refine nE_iload_n dX1_moveTwo_76 rfl rfl ?_
    obtain ⟨g2, h⟩ := h
    refine nG_iast (j := x2.toNatClampNeg) sC_86 rfl dX1_moveTwo_77 ⟨g2, ?_⟩
    refine nE_iinc (v := x2 + 1) dX1_moveTwo_78 rfl rfl (by decide) rfl ?_
    refine nE_goto (tgt := 2) dX1_moveTwo_81 (by decide) ?_
    refine nE_weak 3 ?_
    refine nE_weak 4 ?_
    exact h
  · have h := h.2 c1
    refine nE_aload_n dX1_moveTwo_29 rfl rfl ?_
    refine nE_getC fl_X1_18 sC_83 rfl dX1_moveTwo_30 ?_
    refine nE_iload_n dX1_moveTwo_33 rfl rfl ?_
    refine nE_iload dX1_moveTwo_34 rfl ?_
    obtain ⟨g3, h⟩ := h
    refine nG_iast (j := x2.toNatClampNeg) sC_86 rfl dX1_moveTwo_36 ⟨g3, ?_⟩
    refine nE_iload dX1_moveTwo_37 rfl ?_
    refine nE_iload_n dX1_moveTwo_39 rfl rfl ?_
    refine nE_icmp_eq (tgt := 65) dX1_moveTwo_40 (by decide) ⟨fun c4 => ?_, fun c4 => ?_⟩
    · have h := h.1 c4
      refine nE_iinc (v := x4 + 1) dX1_moveTwo_65 rfl rfl (by decide) rfl ?_
      refine nE_goto (tgt := 20) dX1_moveTwo_68 (by decide) ?_
      exact h
    · have h := h.2 c4
      refine nE_aload_n dX1_moveTwo_43 rfl rfl ?_
      refine nE_aload_n dX1_moveTwo_44 rfl rfl ?_
      refine nE_iconst (v := 1) dX1_moveTwo_45 (by decide) ?_
      refine nE_iload_n dX1_moveTwo_46 rfl rfl ?_
      refine nE_iconst (v := 1) dX1_moveTwo_47 (by decide) ?_
      refine nE_iadd dX1_moveTwo_48 ?_
      refine nE_callV (As := [.ref o1, .int 1, .int (x2 + 1)]) yf_X1_moveOne ⟨by decide, by decide⟩ rfl rfl sC_83 rfl vl_X1_64 dX1_moveTwo_49 rfl rfl (Nat.le_of_ble_eq_true rfl) (Nat.le_of_ble_eq_true rfl) (nE_mono (fun z7 τ5 h => ?_) h)
      obtain ⟨r6, rfl, h⟩ := h
      refine nE_if_eq (tgt := 65) dX1_moveTwo_52 (by decide) ⟨fun c8 => ?_, fun c8 => ?_⟩
      · have h := h.1 c8
        refine nE_iinc (v := x4 + 1) dX1_moveTwo_65 rfl rfl (by decide) rfl ?_
        refine nE_goto (tgt := 20) dX1_moveTwo_68 (by decide) ?_
        exact h
      · have h := h.2 c8
        refine nE_aload_n dX1_moveTwo_55 rfl rfl ?_
        refine nE_iconst (v := 0) dX1_moveTwo_56 (by decide) ?_
        refine nE_iload_n dX1_moveTwo_57 rfl rfl ?_
        refine nE_iload dX1_moveTwo_58 rfl ?_
        refine nE_callV (As := [.int 0, .int x2, .int x4]) yf_X1_hold ⟨by decide, by decide⟩ rfl rfl sC_83 rfl vl_X1_74 dX1_moveTwo_60 rfl rfl (Nat.le_of_ble_eq_true rfl) (Nat.le_of_ble_eq_true rfl) (nE_mono (fun z11 τ9 h => ?_) h)
        obtain ⟨rfl, h⟩ := h
        refine nE_iconst (v := 1) dX1_moveTwo_63 (by decide) ?_
        exact nE_zret (ty := .boolean) dX1_moveTwo_64 rfl (by decide) h
set_option maxRecDepth 20000 in
theorem sg_X1_hold_0 (x1 : Int32) (x2 : Int32) (x3 : Int32) {σ : nh_S} {Q : Option Value → nh_S → Prop} (h : (x1 < 0 → (Q none σ)) ∧ (¬ (x1 < 0) → ((x1 < 2 → ((vp_in x1 2) ∧ Q none (nh_wa (nh_wa σ 84 x1.toNatClampNeg x2) 85 x1.toNatClampNeg x3))) ∧ (¬ (x1 < 2) → (Q none σ))))) : nh_E kX1_hold 0 [some (.ref 83), some (.int x1), some (.int x2), some (.int x3)] [] σ Q := by
  refine nE_iload_n dX1_hold_0 rfl rfl ?_
  refine nE_if_lt (tgt := 9) dX1_hold_1 (by decide) ⟨fun c1 => ?_, fun c1 => ?_⟩
  · have h := h.1 c1
    exact nE_vret dX1_hold_9 rfl h
  · have h := h.2 c1
    refine nE_iload_n dX1_hold_4 rfl rfl ?_
    refine nE_iconst (v := 2) dX1_hold_5 (by decide) ?_
    refine nE_icmp_lt (tgt := 10) dX1_hold_6 (by decide) ⟨fun c2 => ?_, fun c2 => ?_⟩
    · have h := h.1 c2
      refine nE_aload_n dX1_hold_10 rfl rfl ?_
      refine nE_getC fl_X1_9 sC_83 rfl dX1_hold_11 ?_
      refine nE_iload_n dX1_hold_14 rfl rfl ?_
      refine nE_iload_n dX1_hold_15 rfl rfl ?_
      obtain ⟨g3, h⟩ := h
      refine nG_iast (j := x1.toNatClampNeg) sC_84 rfl dX1_hold_16 ⟨g3, ?_⟩
      refine nE_aload_n dX1_hold_17 rfl rfl ?_
      refine nE_getC fl_X1_15 sC_83 rfl dX1_hold_18 ?_
      refine nE_iload_n dX1_hold_21 rfl rfl ?_
      refine nE_iload_n dX1_hold_22 rfl rfl ?_
      refine nG_iast (j := x1.toNatClampNeg) sC_85 rfl dX1_hold_23 ⟨g3, ?_⟩
      exact nE_vret dX1_hold_24 rfl h
    · have h := h.2 c2
      exact nE_vret dX1_hold_9 rfl h
set_option maxRecDepth 20000 in
theorem sg_X1_isInTime_0 {o1 : Nat} (ho1 : isP o1) {σ : nh_S} {Q : Option Value → nh_S → Prop} (h : nh_E kX1_isInTime 2 [some (.ref 83), some (.ref o1), some (.int 0), none] [] σ Q) : nh_E kX1_isInTime 0 [some (.ref 83), some (.ref o1), none, none] [] σ Q := by
  refine nE_iconst (v := 0) dX1_isInTime_0 (by decide) ?_
  refine nE_istore_n dX1_isInTime_1 rfl rfl (by decide) ?_
  exact h
set_option maxRecDepth 20000 in
theorem sg_X1_isInTime_2 {o1 : Nat} (ho1 : isP o1) (x2 : Int32) {σ : nh_S} {Q : Option Value → nh_S → Prop} (h : (σ.1 o1 0 ≤ x2 → (Q (some (.int 1)) σ)) ∧ (¬ (σ.1 o1 0 ≤ x2) → (nh_E kX1_isInTime 12 [some (.ref 83), some (.ref o1), some (.int x2), some (.int 0)] [] σ Q))) : nh_E kX1_isInTime 2 [some (.ref 83), some (.ref o1), some (.int x2), none] [] σ Q := by
  refine nE_iload_n dX1_isInTime_2 rfl rfl ?_
  refine nE_aload_n dX1_isInTime_3 rfl rfl ?_
  refine nE_getI fl_X1_46 (sP_0 ho1) rfl dX1_isInTime_4 ?_
  refine nE_icmp_ge (tgt := 96) dX1_isInTime_7 (by decide) ⟨fun c1 => ?_, fun c1 => ?_⟩
  · have h := h.1 c1
    refine nE_iconst (v := 1) dX1_isInTime_96 (by decide) ?_
    exact nE_zret (ty := .boolean) dX1_isInTime_97 rfl (by decide) h
  · have h := h.2 c1
    refine nE_iconst (v := 0) dX1_isInTime_10 (by decide) ?_
    refine nE_istore_n dX1_isInTime_11 rfl rfl (by decide) ?_
    exact h
set_option maxRecDepth 20000 in
theorem sg_X1_isInTime_12 {o1 : Nat} (ho1 : isP o1) (x2 : Int32) (x3 : Int32) {σ : nh_S} {Q : Option Value → nh_S → Prop} (h : (σ.1 o1 1 ≤ x3 → (nh_E kX5_run 0 [some (.ref 98), some (.ref o1), some (.int ((1 <<< ((σ.1 o1 1) &&& 31)) - 1)), none] [] σ (nh_qi fun r3 τ2 => (r3 = (-1) → (nh_E kX8_swap 0 [some (.ref 97), some (.int 0), some (.int x2), none] [] τ2 (nh_qv fun τ6 => Q (some (.int 0)) τ6))) ∧ (¬ (r3 = (-1)) → ((r3 ≤ τ2.1 83 7 → (nh_E kX1_isInTime 2 [some (.ref 83), some (.ref o1), some (.int (x2 + 1)), none] [] τ2 Q)) ∧ (¬ (r3 ≤ τ2.1 83 7) → (nh_E kX8_swap 0 [some (.ref 97), some (.int 0), some (.int x2), none] [] τ2 (nh_qv fun τ10 => Q (some (.int 0)) τ10)))))))) ∧ (¬ (σ.1 o1 1 ≤ x3) → ((vp_in x2 9) ∧ (vp_in (σ.2.1 97 x2.toNatClampNeg) 9) ∧ (vp_in x3 12) ∧ (vp_in (σ.2.1 86 x3.toNatClampNeg) 9) ∧ nh_E kX1_isInTime 12 [some (.ref 83), some (.ref o1), some (.int x2), some (.int (x3 + 1))] [] (nh_wa σ 99 x3.toNatClampNeg (σ.2.1 (88 + (σ.2.1 97 x2.toNatClampNeg).toNatClampNeg) ((σ.2.1 86 x3.toNatClampNeg).toNatClampNeg))) Q))) : nh_E kX1_isInTime 12 [some (.ref 83), some (.ref o1), some (.int x2), some (.int x3)] [] σ Q := by
  refine nE_iload_n dX1_isInTime_12 rfl rfl ?_
  refine nE_aload_n dX1_isInTime_13 rfl rfl ?_
  refine nE_getI fl_X1_71 (sP_0 ho1) rfl dX1_isInTime_14 ?_
  refine nE_icmp_ge (tgt := 53) dX1_isInTime_17 (by decide) ⟨fun c1 => ?_, fun c1 => ?_⟩
  · have h := h.1 c1
    refine nE_aload_n dX1_isInTime_53 rfl rfl ?_
    refine nE_getC fl_X1_32 sC_83 rfl dX1_isInTime_54 ?_
    refine nE_aload_n dX1_isInTime_57 rfl rfl ?_
    refine nE_aload_n dX1_isInTime_58 rfl rfl ?_
    refine nE_callV (As := []) yf_X3_allParts ⟨by decide, by decide⟩ rfl rfl (sP_0 ho1) rfl vl_X1_81 dX1_isInTime_59 rfl rfl (Nat.le_of_ble_eq_true rfl) (Nat.le_of_ble_eq_true rfl) (p_X3_allParts ho1 ?_)
    refine nE_callV (As := [.ref o1, .int ((1 <<< ((σ.1 o1 1) &&& 31)) - 1)]) yf_X5_run ⟨by decide, by decide⟩ rfl rfl (sG_0 isG_98) rfl vl_X1_85 dX1_isInTime_62 rfl rfl (Nat.le_of_ble_eq_true rfl) (Nat.le_of_ble_eq_true rfl) (nE_mono (fun z4 τ2 h => ?_) h)
    obtain ⟨r3, rfl, h⟩ := h
    refine nE_istore_n dX1_isInTime_65 rfl rfl (by decide) ?_
    refine nE_iload_n dX1_isInTime_66 rfl rfl ?_
    refine nE_iconst (v := (-1)) dX1_isInTime_67 (by decide) ?_
    refine nE_icmp_eq (tgt := 79) dX1_isInTime_68 (by decide) ⟨fun c5 => ?_, fun c5 => ?_⟩
    · have h := h.1 c5
      refine nE_aload_n dX1_isInTime_79 rfl rfl ?_
      refine nE_getC fl_X1_26 sC_83 rfl dX1_isInTime_80 ?_
      refine nE_iconst (v := 0) dX1_isInTime_83 (by decide) ?_
      refine nE_iload_n dX1_isInTime_84 rfl rfl ?_
      refine nE_callN (As := [.ref 97, .int 0, .int x2]) yf_X8_swap ⟨by decide, by decide⟩ rfl nl_X1_89 dX1_isInTime_85 rfl rfl (Nat.le_of_ble_eq_true rfl) (Nat.le_of_ble_eq_true rfl) (nE_mono (fun z8 τ6 h => ?_) h)
      obtain ⟨rfl, h⟩ := h
      refine nE_iconst (v := 0) dX1_isInTime_88 (by decide) ?_
      exact nE_zret (ty := .boolean) dX1_isInTime_89 rfl (by decide) h
    · have h := h.2 c5
      refine nE_iload_n dX1_isInTime_71 rfl rfl ?_
      refine nE_aload_n dX1_isInTime_72 rfl rfl ?_
      refine nE_getI fl_X1_36 sC_83 rfl dX1_isInTime_73 ?_
      refine nE_icmp_le (tgt := 90) dX1_isInTime_76 (by decide) ⟨fun c9 => ?_, fun c9 => ?_⟩
      · have h := h.1 c9
        refine nE_iinc (v := x2 + 1) dX1_isInTime_90 rfl rfl (by decide) rfl ?_
        refine nE_goto (tgt := 2) dX1_isInTime_93 (by decide) ?_
        refine nE_weak 3 ?_
        exact h
      · have h := h.2 c9
        refine nE_aload_n dX1_isInTime_79 rfl rfl ?_
        refine nE_getC fl_X1_26 sC_83 rfl dX1_isInTime_80 ?_
        refine nE_iconst (v := 0) dX1_isInTime_83 (by decide) ?_
        refine nE_iload_n dX1_isInTime_84 rfl rfl ?_
        refine nE_callN (As := [.ref 97, .int 0, .int x2]) yf_X8_swap ⟨by decide, by decide⟩ rfl nl_X1_89 dX1_isInTime_85 rfl rfl (Nat.le_of_ble_eq_true rfl) (Nat.le_of_ble_eq_true rfl) (nE_mono (fun z12 τ10 h => ?_) h)
        obtain ⟨rfl, h⟩ := h
        refine nE_iconst (v := 0) dX1_isInTime_88 (by decide) ?_
        exact nE_zret (ty := .boolean) dX1_isInTime_89 rfl (by decide) h
  · have h := h.2 c1
    refine nE_aload_n dX1_isInTime_20 rfl rfl ?_
    refine nE_getC fl_X1_32 sC_83 rfl dX1_isInTime_21 ?_
    refine nE_getC fl_X1_78 (sG_0 isG_98) rfl dX1_isInTime_24 ?_
    refine nE_iload_n dX1_isInTime_27 rfl rfl ?_
    refine nE_aload_n dX1_isInTime_28 rfl rfl ?_
    refine nE_getC fl_X1_23 sC_83 rfl dX1_isInTime_29 ?_
    refine nE_aload_n dX1_isInTime_32 rfl rfl ?_
    refine nE_getC fl_X1_26 sC_83 rfl dX1_isInTime_33 ?_
    refine nE_iload_n dX1_isInTime_36 rfl rfl ?_
    obtain ⟨g13, h⟩ := h
    refine nG_iald (j := x2.toNatClampNeg) sC_97 rfl dX1_isInTime_37 ⟨g13, ?_⟩
    obtain ⟨g14, h⟩ := h
    refine nG_aald (j := (σ.2.1 97 x2.toNatClampNeg).toNatClampNeg) sC_87 rfl dX1_isInTime_38 ⟨g14, ?_⟩
    refine nE_aload_n dX1_isInTime_39 rfl rfl ?_
    refine nE_getC fl_X1_18 sC_83 rfl dX1_isInTime_40 ?_
    refine nE_iload_n dX1_isInTime_43 rfl rfl ?_
    obtain ⟨g15, h⟩ := h
    refine nG_iald (j := x3.toNatClampNeg) sC_86 rfl dX1_isInTime_44 ⟨g15, ?_⟩
    obtain ⟨g16, h⟩ := h
    refine nG_iald (j := (σ.2.1 86 x3.toNatClampNeg).toNatClampNeg) (sM_r g14) rfl dX1_isInTime_45 ⟨g16, ?_⟩
    refine nG_iast (j := x3.toNatClampNeg) (sG_1 isG_98) rfl dX1_isInTime_46 ⟨g15, ?_⟩
    refine nE_iinc (v := x3 + 1) dX1_isInTime_47 rfl rfl (by decide) rfl ?_
    refine nE_goto (tgt := 12) dX1_isInTime_50 (by decide) ?_
    exact h
set_option maxRecDepth 20000 in
theorem sg_X2_begin_0 {o : Nat} (ho : isN o) {o1 : Nat} (ho1 : isP o1) {σ : nh_S} {Q : Option Value → nh_S → Prop} (h : nh_E kX2_begin 7 [some (.ref o), some (.ref o1), some (.int 0)] [] (nh_si σ o 2 0) Q) : nh_E kX2_begin 0 [some (.ref o), some (.ref o1), none] [] σ Q := by
  refine nE_aload_n dX2_begin_0 rfl rfl ?_
  refine nE_iconst (v := 0) dX2_begin_1 (by decide) ?_
  refine nE_putI fl_X2_18 (sN_0 ho) rfl ⟨rfl, rfl⟩ dX2_begin_2 ?_
  refine nE_iconst (v := 0) dX2_begin_5 (by decide) ?_
  refine nE_istore_n dX2_begin_6 rfl rfl (by decide) ?_
  exact h
set_option maxRecDepth 20000 in
theorem sg_X2_begin_7 {o : Nat} (ho : isN o) {o1 : Nat} (ho1 : isP o1) (x2 : Int32) {σ : nh_S} {Q : Option Value → nh_S → Prop} (h : (12 ≤ x2 → (Q none σ)) ∧ (¬ (12 ≤ x2) → (((¬ (σ.1 o1 1 ≤ x2) → (vp_in x2 12))) ∧ (vp_in x2 12) ∧ nh_E kX2_begin 7 [some (.ref o), some (.ref o1), some (.int (x2 + 1))] [] (nh_wa (nh_wa σ (o + 1) x2.toNatClampNeg (if σ.1 o1 1 ≤ x2 then 0 else σ.2.1 (o1 + 18) x2.toNatClampNeg)) (o + 2) x2.toNatClampNeg (1 <<< (x2 &&& 31))) Q))) : nh_E kX2_begin 7 [some (.ref o), some (.ref o1), some (.int x2)] [] σ Q := by
  refine nE_iload_n dX2_begin_7 rfl rfl ?_
  refine nE_bipush (v := 12) dX2_begin_8 (by decide) ?_
  refine nE_icmp_ge (tgt := 52) dX2_begin_10 (by decide) ⟨fun c1 => ?_, fun c1 => ?_⟩
  · have h := h.1 c1
    exact nE_vret dX2_begin_52 rfl h
  · have h := h.2 c1
    refine nE_aload_n dX2_begin_13 rfl rfl ?_
    refine nE_getC fl_X2_9 (sN_0 ho) rfl dX2_begin_14 ?_
    refine nE_iload_n dX2_begin_17 rfl rfl ?_
    refine nE_iload_n dX2_begin_18 rfl rfl ?_
    refine nE_aload_n dX2_begin_19 rfl rfl ?_
    refine nE_getI fl_X2_22 (sP_0 ho1) rfl dX2_begin_20 ?_
    obtain ⟨u3, h⟩ := h
    have j5 : nh_E kX2_begin 36 [some (.ref o), some (.ref o1), some (.int x2)] [.int (if σ.1 o1 1 ≤ x2 then 0 else σ.2.1 (o1 + 18) x2.toNatClampNeg), .int x2, .ref (o + 1)] σ Q := by
      obtain ⟨g4, h⟩ := h
      refine nG_iast (j := x2.toNatClampNeg) (sN_1 ho) rfl dX2_begin_36 ⟨g4, ?_⟩
      refine nE_aload_n dX2_begin_37 rfl rfl ?_
      refine nE_getC fl_X2_15 (sN_0 ho) rfl dX2_begin_38 ?_
      refine nE_iload_n dX2_begin_41 rfl rfl ?_
      refine nE_iconst (v := 1) dX2_begin_42 (by decide) ?_
      refine nE_iload_n dX2_begin_43 rfl rfl ?_
      refine nE_ishl dX2_begin_44 ?_
      refine nG_iast (j := x2.toNatClampNeg) (sN_2 ho) rfl dX2_begin_45 ⟨g4, ?_⟩
      refine nE_iinc (v := x2 + 1) dX2_begin_46 rfl rfl (by decide) rfl ?_
      refine nE_goto (tgt := 7) dX2_begin_49 (by decide) ?_
      exact h
    have u6 := u3
    refine nE_icmp_ge (tgt := 35) dX2_begin_23 (by decide) ⟨fun c7 => ?_, fun c7 => ?_⟩
    · skip
      have f8 : (σ.1 o1 1 ≤ x2) = True := eq_true c7
      refine nE_iconst (v := 0) dX2_begin_35 (by decide) ?_
      exact nh_topi (show ((if σ.1 o1 1 ≤ x2 then 0 else σ.2.1 (o1 + 18) x2.toNatClampNeg) : Int32) = 0 from by simp only [if_true, if_false, not_true_eq_false, not_false_eq_true, true_and, and_true, false_and, and_false, true_or, or_true, false_or, or_false, if_pos, if_neg, ite_true, ite_false, f8]) j5
    · skip
      have f9 : (σ.1 o1 1 ≤ x2) = False := eq_false c7
      have g2 := (u6 c7)
      refine nE_aload_n dX2_begin_26 rfl rfl ?_
      refine nE_getC fl_X2_27 (sP_0 ho1) rfl dX2_begin_27 ?_
      refine nE_iload_n dX2_begin_30 rfl rfl ?_
      refine nG_iald (j := x2.toNatClampNeg) (sP_18 ho1) rfl dX2_begin_31 ⟨g2, ?_⟩
      refine nE_goto (tgt := 36) dX2_begin_32 (by decide) ?_
      exact nh_topi (show ((if σ.1 o1 1 ≤ x2 then 0 else σ.2.1 (o1 + 18) x2.toNatClampNeg) : Int32) = σ.2.1 (o1 + 18) x2.toNatClampNeg from by simp only [if_true, if_false, not_true_eq_false, not_false_eq_true, true_and, and_true, false_and, and_false, true_or, or_true, false_or, or_false, if_pos, if_neg, ite_true, ite_false, f9]) j5
set_option maxRecDepth 20000 in
theorem sg_X2_becomes_0 {o : Nat} (ho : isN o) {o1 : Nat} (ho1 : isN o1) {σ : nh_S} {Q : Option Value → nh_S → Prop} (h : (¬ (0 : Int32) < 0 ∧ ¬ (0 : Int32) < 0 ∧ ¬ (12 : Int32) < 0 ∧ (0 : Int32).toNatClampNeg + (12 : Int32).toNatClampNeg ≤ 12 ∧ (0 : Int32).toNatClampNeg + (12 : Int32).toNatClampNeg ≤ 12) ∧ (¬ (0 : Int32) < 0 ∧ ¬ (0 : Int32) < 0 ∧ ¬ (12 : Int32) < 0 ∧ (0 : Int32).toNatClampNeg + (12 : Int32).toNatClampNeg ≤ 12 ∧ (0 : Int32).toNatClampNeg + (12 : Int32).toNatClampNeg ≤ 12) ∧ Q none (nh_si (nh_si (nh_cp (nh_cp σ (o1 + 1) (o + 1) ((0 : Int32).toNatClampNeg) ((0 : Int32).toNatClampNeg) ((12 : Int32).toNatClampNeg)) (o1 + 2) (o + 2) ((0 : Int32).toNatClampNeg) ((0 : Int32).toNatClampNeg) ((12 : Int32).toNatClampNeg)) o 2 (σ.1 o1 2)) o 3 (((nh_si (nh_cp (nh_cp σ (o1 + 1) (o + 1) ((0 : Int32).toNatClampNeg) ((0 : Int32).toNatClampNeg) ((12 : Int32).toNatClampNeg)) (o1 + 2) (o + 2) ((0 : Int32).toNatClampNeg) ((0 : Int32).toNatClampNeg) ((12 : Int32).toNatClampNeg)) o 2 (σ.1 o1 2))).1 o1 3))) : nh_E kX2_becomes 0 [some (.ref o), some (.ref o1)] [] σ Q := by
  refine nE_aload_n dX2_becomes_0 rfl rfl ?_
  refine nE_getC fl_X2_9 (sN_0 ho1) rfl dX2_becomes_1 ?_
  refine nE_iconst (v := 0) dX2_becomes_4 (by decide) ?_
  refine nE_aload_n dX2_becomes_5 rfl rfl ?_
  refine nE_getC fl_X2_9 (sN_0 ho) rfl dX2_becomes_6 ?_
  refine nE_iconst (v := 0) dX2_becomes_9 (by decide) ?_
  refine nE_bipush (v := 12) dX2_becomes_10 (by decide) ?_
  obtain ⟨g1, h⟩ := h
  refine nE_acopy ac_X2_30 (sN_1 ho1) (sN_1 ho) ⟨by decide, Nat.le_of_ble_eq_true rfl⟩ dX2_becomes_12 ⟨g1, ?_⟩
  refine nE_aload_n dX2_becomes_15 rfl rfl ?_
  refine nE_getC fl_X2_15 (sN_0 ho1) rfl dX2_becomes_16 ?_
  refine nE_iconst (v := 0) dX2_becomes_19 (by decide) ?_
  refine nE_aload_n dX2_becomes_20 rfl rfl ?_
  refine nE_getC fl_X2_15 (sN_0 ho) rfl dX2_becomes_21 ?_
  refine nE_iconst (v := 0) dX2_becomes_24 (by decide) ?_
  refine nE_bipush (v := 12) dX2_becomes_25 (by decide) ?_
  obtain ⟨g2, h⟩ := h
  refine nE_acopy ac_X2_30 (sN_2 ho1) (sN_2 ho) ⟨by decide, Nat.le_of_ble_eq_true rfl⟩ dX2_becomes_27 ⟨g2, ?_⟩
  refine nE_aload_n dX2_becomes_30 rfl rfl ?_
  refine nE_aload_n dX2_becomes_31 rfl rfl ?_
  refine nE_getI fl_X2_18 (sN_0 ho1) rfl dX2_becomes_32 ?_
  refine nE_putI fl_X2_18 (sN_0 ho) rfl ⟨rfl, rfl⟩ dX2_becomes_35 ?_
  refine nE_aload_n dX2_becomes_38 rfl rfl ?_
  refine nE_aload_n dX2_becomes_39 rfl rfl ?_
  refine nE_getI fl_X2_36 (sN_0 ho1) rfl dX2_becomes_40 ?_
  refine nE_putI fl_X2_36 (sN_0 ho) rfl ⟨rfl, rfl⟩ dX2_becomes_43 ?_
  exact nE_vret dX2_becomes_46 rfl h
set_option maxRecDepth 20000 in
theorem sg_X2_partsAt_0 {o : Nat} (ho : isN o) (x1 : Int32) (x2 : Int32) {σ : nh_S} {Q : Option Value → nh_S → Prop} (h : nh_E kX2_partsAt 5 [some (.ref o), some (.int x1), some (.int x2), some (.int 0), some (.int 0)] [] σ Q) : nh_E kX2_partsAt 0 [some (.ref o), some (.int x1), some (.int x2), none, none] [] σ Q := by
  refine nE_iconst (v := 0) dX2_partsAt_0 (by decide) ?_
  refine nE_istore_n dX2_partsAt_1 rfl rfl (by decide) ?_
  refine nE_iconst (v := 0) dX2_partsAt_2 (by decide) ?_
  refine nE_istore dX2_partsAt_3 rfl (by decide) ?_
  exact h
set_option maxRecDepth 20000 in
theorem sg_X2_partsAt_5 {o : Nat} (ho : isN o) (x1 : Int32) (x2 : Int32) (x3 : Int32) (x4 : Int32) {σ : nh_S} {Q : Option Value → nh_S → Prop} (h : (x2 ≤ x4 → (Q (some (.int x3)) σ)) ∧ (¬ (x2 ≤ x4) → ((vp_in x4 12) ∧ (¬ (σ.2.1 (o + 1) x4.toNatClampNeg = x1) → (nh_E kX2_partsAt 5 [some (.ref o), some (.int x1), some (.int x2), some (.int x3), some (.int (x4 + 1))] [] σ Q)) ∧ (σ.2.1 (o + 1) x4.toNatClampNeg = x1 → (nh_E kX2_partsAt 5 [some (.ref o), some (.int x1), some (.int x2), some (.int (x3 ||| (1 <<< (x4 &&& 31)))), some (.int (x4 + 1))] [] σ Q))))) : nh_E kX2_partsAt 5 [some (.ref o), some (.int x1), some (.int x2), some (.int x3), some (.int x4)] [] σ Q := by
  refine nE_iload dX2_partsAt_5 rfl ?_
  refine nE_iload_n dX2_partsAt_7 rfl rfl ?_
  refine nE_icmp_ge (tgt := 35) dX2_partsAt_8 (by decide) ⟨fun c1 => ?_, fun c1 => ?_⟩
  · have h := h.1 c1
    refine nE_iload_n dX2_partsAt_35 rfl rfl ?_
    exact nE_iret dX2_partsAt_36 rfl h
  · have h := h.2 c1
    refine nE_aload_n dX2_partsAt_11 rfl rfl ?_
    refine nE_getC fl_X2_9 (sN_0 ho) rfl dX2_partsAt_12 ?_
    refine nE_iload dX2_partsAt_15 rfl ?_
    obtain ⟨g2, h⟩ := h
    refine nG_iald (j := x4.toNatClampNeg) (sN_1 ho) rfl dX2_partsAt_17 ⟨g2, ?_⟩
    refine nE_iload_n dX2_partsAt_18 rfl rfl ?_
    refine nE_icmp_ne (tgt := 29) dX2_partsAt_19 (by decide) ⟨fun c3 => ?_, fun c3 => ?_⟩
    · have h := h.1 c3
      refine nE_iinc (v := x4 + 1) dX2_partsAt_29 rfl rfl (by decide) rfl ?_
      refine nE_goto (tgt := 5) dX2_partsAt_32 (by decide) ?_
      exact h
    · have h := h.2 c3
      refine nE_iload_n dX2_partsAt_22 rfl rfl ?_
      refine nE_iconst (v := 1) dX2_partsAt_23 (by decide) ?_
      refine nE_iload dX2_partsAt_24 rfl ?_
      refine nE_ishl dX2_partsAt_26 ?_
      refine nE_ior dX2_partsAt_27 ?_
      refine nE_istore_n dX2_partsAt_28 rfl rfl (by decide) ?_
      refine nE_iinc (v := x4 + 1) dX2_partsAt_29 rfl rfl (by decide) rfl ?_
      refine nE_goto (tgt := 5) dX2_partsAt_32 (by decide) ?_
      exact h
set_option maxRecDepth 20000 in
theorem sg_X2_draw_0 {o : Nat} (ho : isN o) (x1 : Int32) {σ : nh_S} {Q : Option Value → nh_S → Prop} (h : (¬ (if x1 < 1 then 1 else x1) = 0) ∧ Q (some (.int (((((nh_si σ o 3 ((((((σ.1 o 3).toInt64) * 1103515245) + 12345) &&& 2147483647).toInt32))).1 o 3) / 65536) - ((((nh_si σ o 3 ((((((σ.1 o 3).toInt64) * 1103515245) + 12345) &&& 2147483647).toInt32))).1 o 3) / 65536) / (if x1 < 1 then 1 else x1) * (if x1 < 1 then 1 else x1)))) (nh_si σ o 3 ((((((σ.1 o 3).toInt64) * 1103515245) + 12345) &&& 2147483647).toInt32))) : nh_E kX2_draw 0 [some (.ref o), some (.int x1)] [] σ Q := by
  refine nE_aload_n dX2_draw_0 rfl rfl ?_
  refine nE_aload_n dX2_draw_1 rfl rfl ?_
  refine nE_getI fl_X2_36 (sN_0 ho) rfl dX2_draw_2 ?_
  refine nE_i2l dX2_draw_5 ?_
  refine nE_ldc2 kc_X2_39 dX2_draw_6 ?_
  refine nE_lmul dX2_draw_9 ?_
  refine nE_ldc2 kc_X2_41 dX2_draw_10 ?_
  refine nE_ladd dX2_draw_13 ?_
  refine nE_ldc2 kc_X2_43 dX2_draw_14 ?_
  refine nE_land dX2_draw_17 ?_
  refine nE_l2i dX2_draw_18 ?_
  refine nE_putI fl_X2_36 (sN_0 ho) rfl ⟨rfl, rfl⟩ dX2_draw_19 ?_
  refine nE_aload_n dX2_draw_22 rfl rfl ?_
  refine nE_getI fl_X2_36 (sN_0 ho) rfl dX2_draw_23 ?_
  refine nE_ldc kc_X2_45 dX2_draw_26 ?_
  refine nE_idiv dX2_draw_28 (by decide) ?_
  refine nE_iload_n dX2_draw_29 rfl rfl ?_
  refine nE_iconst (v := 1) dX2_draw_30 (by decide) ?_
  refine nE_mmax mm_X2_46 ⟨by decide, Nat.le_of_ble_eq_true rfl⟩ dX2_draw_31 ?_
  obtain ⟨g1, h⟩ := h
  refine nE_irem dX2_draw_34 g1 ?_
  exact nE_iret dX2_draw_35 rfl h
set_option maxRecDepth 20000 in
theorem sg_X3_learn_0 {o : Nat} (ho : isP o) {σ : nh_S} {Q : Option Value → nh_S → Prop} (h : nh_E kX3_forget 0 [some (.ref o), none] [] σ (nh_qv fun τ1 => nh_E kX3_learn 6 [some (.ref o), some (.ref 1), some (.int 0)] [] τ1 Q)) : nh_E kX3_learn 0 [some (.ref o), some (.ref 1), none] [] σ Q := by
  refine nE_aload_n dX3_learn_0 rfl rfl ?_
  refine nE_callV (As := []) yf_X3_forget ⟨by decide, by decide⟩ rfl rfl (sP_0 ho) rfl vl_X3_38 dX3_learn_1 rfl rfl (Nat.le_of_ble_eq_true rfl) (Nat.le_of_ble_eq_true rfl) (nE_mono (fun z3 τ1 h => ?_) h)
  obtain ⟨rfl, h⟩ := h
  refine nE_iconst (v := 0) dX3_learn_4 (by decide) ?_
  refine nE_istore_n dX3_learn_5 rfl rfl (by decide) ?_
  exact h
set_option maxRecDepth 20000 in
theorem sg_X3_learn_6 {o : Nat} (ho : isP o) (x2 : Int32) {σ : nh_S} {Q : Option Value → nh_S → Prop} (h : (600 ≤ x2 → (nh_E kX3_shortenWays 0 [some (.ref o), none, none, none] [] σ (nh_qv fun τ2 => Q none τ2))) ∧ (¬ (600 ≤ x2) → (nh_E kX6_goesOn 0 [some (.ref 1)] [] σ (nh_qi fun r6 τ5 => (r6 = 0 → (nh_E kX3_shortenWays 0 [some (.ref o), none, none, none] [] τ5 (nh_qv fun τ9 => Q none τ9))) ∧ (¬ (r6 = 0) → (nh_E kX6_takesWord 0 [some (.ref 1), some (.ref 900), none, none] [] τ5 (nh_qi fun r13 τ12 => (r13 = 0 → (nh_E kX6_takesWord 0 [some (.ref 1), some (.ref 901), none, none] [] τ12 (nh_qi fun r17 τ16 => (r17 = 0 → (nh_E kX6_takesWord 0 [some (.ref 1), some (.ref 902), none, none] [] τ16 (nh_qi fun r21 τ20 => (r21 = 0 → (nh_E kX6_blameHere 0 [some (.ref 1)] [] τ20 (nh_qv fun τ24 => nh_E kX3_learn 6 [some (.ref o), some (.ref 1), some (.int (x2 + 1))] [] τ24 Q))) ∧ (¬ (r21 = 0) → (nh_E kX3_learnPart 0 [some (.ref o), some (.ref 1)] [] τ20 (nh_qv fun τ27 => nh_E kX3_learn 6 [some (.ref o), some (.ref 1), some (.int (x2 + 1))] [] τ27 Q)))))) ∧ (¬ (r17 = 0) → (nh_E kX3_learnWay 0 [some (.ref o), some (.ref 1), none, none, none] [] τ16 (nh_qv fun τ30 => nh_E kX3_learn 6 [some (.ref o), some (.ref 1), some (.int (x2 + 1))] [] τ30 Q)))))) ∧ (¬ (r13 = 0) → (nh_E kX3_learnHouse 0 [some (.ref o), some (.ref 1), none] [] τ12 (nh_qv fun τ33 => nh_E kX3_learn 6 [some (.ref o), some (.ref 1), some (.int (x2 + 1))] [] τ33 Q)))))))))) : nh_E kX3_learn 6 [some (.ref o), some (.ref 1), some (.int x2)] [] σ Q := by
  refine nE_iload_n dX3_learn_6 rfl rfl ?_
  refine nE_sipush (v := 600) dX3_learn_7 (by decide) ?_
  refine nE_icmp_ge (tgt := 81) dX3_learn_10 (by decide) ⟨fun c1 => ?_, fun c1 => ?_⟩
  · have h := h.1 c1
    refine nE_aload_n dX3_learn_81 rfl rfl ?_
    refine nE_callV (As := []) yf_X3_shortenWays ⟨by decide, by decide⟩ rfl rfl (sP_0 ho) rfl vl_X3_70 dX3_learn_82 rfl rfl (Nat.le_of_ble_eq_true rfl) (Nat.le_of_ble_eq_true rfl) (nE_mono (fun z4 τ2 h => ?_) h)
    obtain ⟨rfl, h⟩ := h
    exact nE_vret dX3_learn_85 rfl h
  · have h := h.2 c1
    refine nE_aload_n dX3_learn_13 rfl rfl ?_
    refine nE_callV (As := []) yf_X6_goesOn ⟨by decide, by decide⟩ rfl rfl sC_1 rfl vl_X3_41 dX3_learn_14 rfl rfl (Nat.le_of_ble_eq_true rfl) (Nat.le_of_ble_eq_true rfl) (nE_mono (fun z7 τ5 h => ?_) h)
    obtain ⟨r6, rfl, h⟩ := h
    refine nE_if_eq (tgt := 81) dX3_learn_17 (by decide) ⟨fun c8 => ?_, fun c8 => ?_⟩
    · have h := h.1 c8
      refine nE_aload_n dX3_learn_81 rfl rfl ?_
      refine nE_callV (As := []) yf_X3_shortenWays ⟨by decide, by decide⟩ rfl rfl (sP_0 ho) rfl vl_X3_70 dX3_learn_82 rfl rfl (Nat.le_of_ble_eq_true rfl) (Nat.le_of_ble_eq_true rfl) (nE_mono (fun z11 τ9 h => ?_) h)
      obtain ⟨rfl, h⟩ := h
      exact nE_vret dX3_learn_85 rfl h
    · have h := h.2 c8
      refine nE_aload_n dX3_learn_20 rfl rfl ?_
      refine nE_ldcS (j := 0) (tx := "house") (by decide +kernel) dX3_learn_21 ?_
      refine nE_callV (As := [.ref 900]) yf_X6_takesWord ⟨by decide, by decide⟩ rfl rfl sC_1 rfl vl_X3_49 dX3_learn_23 rfl rfl (Nat.le_of_ble_eq_true rfl) (Nat.le_of_ble_eq_true rfl) (nE_mono (fun z14 τ12 h => ?_) h)
      obtain ⟨r13, rfl, h⟩ := h
      refine nE_if_eq (tgt := 37) dX3_learn_26 (by decide) ⟨fun c15 => ?_, fun c15 => ?_⟩
      · have h := h.1 c15
        refine nE_aload_n dX3_learn_37 rfl rfl ?_
        refine nE_ldcS (j := 1) (tx := "way") (by decide +kernel) dX3_learn_38 ?_
        refine nE_callV (As := [.ref 901]) yf_X6_takesWord ⟨by decide, by decide⟩ rfl rfl sC_1 rfl vl_X3_49 dX3_learn_40 rfl rfl (Nat.le_of_ble_eq_true rfl) (Nat.le_of_ble_eq_true rfl) (nE_mono (fun z18 τ16 h => ?_) h)
        obtain ⟨r17, rfl, h⟩ := h
        refine nE_if_eq (tgt := 54) dX3_learn_43 (by decide) ⟨fun c19 => ?_, fun c19 => ?_⟩
        · have h := h.1 c19
          refine nE_aload_n dX3_learn_54 rfl rfl ?_
          refine nE_ldcS (j := 2) (tx := "part") (by decide +kernel) dX3_learn_55 ?_
          refine nE_callV (As := [.ref 902]) yf_X6_takesWord ⟨by decide, by decide⟩ rfl rfl sC_1 rfl vl_X3_49 dX3_learn_57 rfl rfl (Nat.le_of_ble_eq_true rfl) (Nat.le_of_ble_eq_true rfl) (nE_mono (fun z22 τ20 h => ?_) h)
          obtain ⟨r21, rfl, h⟩ := h
          refine nE_if_eq (tgt := 71) dX3_learn_60 (by decide) ⟨fun c23 => ?_, fun c23 => ?_⟩
          · have h := h.1 c23
            refine nE_aload_n dX3_learn_71 rfl rfl ?_
            refine nE_callV (As := []) yf_X6_blameHere ⟨by decide, by decide⟩ rfl rfl sC_1 rfl vl_X3_67 dX3_learn_72 rfl rfl (Nat.le_of_ble_eq_true rfl) (Nat.le_of_ble_eq_true rfl) (nE_mono (fun z26 τ24 h => ?_) h)
            obtain ⟨rfl, h⟩ := h
            refine nE_iinc (v := x2 + 1) dX3_learn_75 rfl rfl (by decide) rfl ?_
            refine nE_goto (tgt := 6) dX3_learn_78 (by decide) ?_
            exact h
          · have h := h.2 c23
            refine nE_aload_n dX3_learn_63 rfl rfl ?_
            refine nE_aload_n dX3_learn_64 rfl rfl ?_
            refine nE_callV (As := [.ref 1]) yf_X3_learnPart ⟨by decide, by decide⟩ rfl rfl (sP_0 ho) rfl vl_X3_64 dX3_learn_65 rfl rfl (Nat.le_of_ble_eq_true rfl) (Nat.le_of_ble_eq_true rfl) (nE_mono (fun z29 τ27 h => ?_) h)
            obtain ⟨rfl, h⟩ := h
            refine nE_goto (tgt := 75) dX3_learn_68 (by decide) ?_
            refine nE_iinc (v := x2 + 1) dX3_learn_75 rfl rfl (by decide) rfl ?_
            refine nE_goto (tgt := 6) dX3_learn_78 (by decide) ?_
            exact h
        · have h := h.2 c19
          refine nE_aload_n dX3_learn_46 rfl rfl ?_
          refine nE_aload_n dX3_learn_47 rfl rfl ?_
          refine nE_callV (As := [.ref 1]) yf_X3_learnWay ⟨by decide, by decide⟩ rfl rfl (sP_0 ho) rfl vl_X3_59 dX3_learn_48 rfl rfl (Nat.le_of_ble_eq_true rfl) (Nat.le_of_ble_eq_true rfl) (nE_mono (fun z32 τ30 h => ?_) h)
          obtain ⟨rfl, h⟩ := h
          refine nE_goto (tgt := 75) dX3_learn_51 (by decide) ?_
          refine nE_iinc (v := x2 + 1) dX3_learn_75 rfl rfl (by decide) rfl ?_
          refine nE_goto (tgt := 6) dX3_learn_78 (by decide) ?_
          exact h
      · have h := h.2 c15
        refine nE_aload_n dX3_learn_29 rfl rfl ?_
        refine nE_aload_n dX3_learn_30 rfl rfl ?_
        refine nE_callV (As := [.ref 1]) yf_X3_learnHouse ⟨by decide, by decide⟩ rfl rfl (sP_0 ho) rfl vl_X3_53 dX3_learn_31 rfl rfl (Nat.le_of_ble_eq_true rfl) (Nat.le_of_ble_eq_true rfl) (nE_mono (fun z35 τ33 h => ?_) h)
        obtain ⟨rfl, h⟩ := h
        refine nE_goto (tgt := 75) dX3_learn_34 (by decide) ?_
        refine nE_iinc (v := x2 + 1) dX3_learn_75 rfl rfl (by decide) rfl ?_
        refine nE_goto (tgt := 6) dX3_learn_78 (by decide) ?_
        exact h
set_option maxRecDepth 20000 in
theorem sg_X3_canBeIn_0 {o : Nat} (ho : isP o) (x1 : Int32) {σ : nh_S} {Q : Option Value → nh_S → Prop} (h : nh_E kX3_canBeIn 4 [some (.ref o), some (.int x1), some (.int 0), some (.int 0)] [] σ Q) : nh_E kX3_canBeIn 0 [some (.ref o), some (.int x1), none, none] [] σ Q := by
  refine nE_iconst (v := 0) dX3_canBeIn_0 (by decide) ?_
  refine nE_istore_n dX3_canBeIn_1 rfl rfl (by decide) ?_
  refine nE_iconst (v := 0) dX3_canBeIn_2 (by decide) ?_
  refine nE_istore_n dX3_canBeIn_3 rfl rfl (by decide) ?_
  exact h
set_option maxRecDepth 20000 in
theorem sg_X3_canBeIn_4 {o : Nat} (ho : isP o) (x1 : Int32) (x2 : Int32) (x3 : Int32) {σ : nh_S} {Q : Option Value → nh_S → Prop} (h : (σ.1 o 1 ≤ x3 → (Q (some (.int x2)) σ)) ∧ (¬ (σ.1 o 1 ≤ x3) → ((¬ (nh_hs x1 x3) → (nh_E kX3_canBeIn 4 [some (.ref o), some (.int x1), some (.int x2), some (.int (x3 + 1))] [] σ Q)) ∧ (nh_hs x1 x3 → ((vp_in x3 12) ∧ (¬ ((σ.2.1 (o + 21) x3.toNatClampNeg) &&& (x2 ^^^ (-1)) = 0) → (nh_E kX3_canBeIn 4 [some (.ref o), some (.int x1), some (.int x2), some (.int (x3 + 1))] [] σ Q)) ∧ ((σ.2.1 (o + 21) x3.toNatClampNeg) &&& (x2 ^^^ (-1)) = 0 → (nh_E kX3_canBeIn 4 [some (.ref o), some (.int x1), some (.int (x2 ||| (1 <<< (x3 &&& 31)))), some (.int (x3 + 1))] [] σ Q))))))) : nh_E kX3_canBeIn 4 [some (.ref o), some (.int x1), some (.int x2), some (.int x3)] [] σ Q := by
  refine nE_iload_n dX3_canBeIn_4 rfl rfl ?_
  refine nE_aload_n dX3_canBeIn_5 rfl rfl ?_
  refine nE_getI fl_X3_73 (sP_0 ho) rfl dX3_canBeIn_6 ?_
  refine nE_icmp_ge (tgt := 45) dX3_canBeIn_9 (by decide) ⟨fun c1 => ?_, fun c1 => ?_⟩
  · have h := h.1 c1
    refine nE_iload_n dX3_canBeIn_45 rfl rfl ?_
    exact nE_iret dX3_canBeIn_46 rfl h
  · have h := h.2 c1
    refine nE_iload_n dX3_canBeIn_12 rfl rfl ?_
    refine nE_iload_n dX3_canBeIn_13 rfl rfl ?_
    refine nE_callN (As := [.int x1, .int x3]) yf_X8_has ⟨by decide, by decide⟩ rfl nl_X3_81 dX3_canBeIn_14 rfl rfl (Nat.le_of_ble_eq_true rfl) (Nat.le_of_ble_eq_true rfl) (p_X8_has _ _ ?_)
    refine nE_ifb_eq (tgt := 39) dX3_canBeIn_17 (by decide) ⟨fun c2 => ?_, fun c2 => ?_⟩
    · have h := h.1 c2
      refine nE_iinc (v := x3 + 1) dX3_canBeIn_39 rfl rfl (by decide) rfl ?_
      refine nE_goto (tgt := 4) dX3_canBeIn_42 (by decide) ?_
      exact h
    · have h := h.2 c2
      refine nE_aload_n dX3_canBeIn_20 rfl rfl ?_
      refine nE_getC fl_X3_35 (sP_0 ho) rfl dX3_canBeIn_21 ?_
      refine nE_iload_n dX3_canBeIn_24 rfl rfl ?_
      obtain ⟨g3, h⟩ := h
      refine nG_iald (j := x3.toNatClampNeg) (sP_21 ho) rfl dX3_canBeIn_25 ⟨g3, ?_⟩
      refine nE_iload_n dX3_canBeIn_26 rfl rfl ?_
      refine nE_iconst (v := (-1)) dX3_canBeIn_27 (by decide) ?_
      refine nE_ixor dX3_canBeIn_28 ?_
      refine nE_iand dX3_canBeIn_29 ?_
      refine nE_if_ne (tgt := 39) dX3_canBeIn_30 (by decide) ⟨fun c4 => ?_, fun c4 => ?_⟩
      · have h := h.1 c4
        refine nE_iinc (v := x3 + 1) dX3_canBeIn_39 rfl rfl (by decide) rfl ?_
        refine nE_goto (tgt := 4) dX3_canBeIn_42 (by decide) ?_
        exact h
      · have h := h.2 c4
        refine nE_iload_n dX3_canBeIn_33 rfl rfl ?_
        refine nE_iconst (v := 1) dX3_canBeIn_34 (by decide) ?_
        refine nE_iload_n dX3_canBeIn_35 rfl rfl ?_
        refine nE_ishl dX3_canBeIn_36 ?_
        refine nE_ior dX3_canBeIn_37 ?_
        refine nE_istore_n dX3_canBeIn_38 rfl rfl (by decide) ?_
        refine nE_iinc (v := x3 + 1) dX3_canBeIn_39 rfl rfl (by decide) rfl ?_
        refine nE_goto (tgt := 4) dX3_canBeIn_42 (by decide) ?_
        exact h
set_option maxRecDepth 20000 in
theorem sg_X3_gainOf_0 {o : Nat} (ho : isP o) (x1 : Int32) {σ : nh_S} {Q : Option Value → nh_S → Prop} (h : nh_E kX3_gainOf 4 [some (.ref o), some (.int x1), some (.int 0), some (.int 0)] [] σ Q) : nh_E kX3_gainOf 0 [some (.ref o), some (.int x1), none, none] [] σ Q := by
  refine nE_iconst (v := 0) dX3_gainOf_0 (by decide) ?_
  refine nE_istore_n dX3_gainOf_1 rfl rfl (by decide) ?_
  refine nE_iconst (v := 0) dX3_gainOf_2 (by decide) ?_
  refine nE_istore_n dX3_gainOf_3 rfl rfl (by decide) ?_
  exact h
set_option maxRecDepth 20000 in
theorem sg_X3_gainOf_4 {o : Nat} (ho : isP o) (x1 : Int32) (x2 : Int32) (x3 : Int32) {σ : nh_S} {Q : Option Value → nh_S → Prop} (h : (σ.1 o 1 ≤ x3 → (Q (some (.int x2)) σ)) ∧ (¬ (σ.1 o 1 ≤ x3) → ((¬ (nh_hs x1 x3) → (nh_E kX3_gainOf 4 [some (.ref o), some (.int x1), some (.int x2), some (.int (x3 + 1))] [] σ Q)) ∧ (nh_hs x1 x3 → ((vp_in x3 12) ∧ nh_E kX3_gainOf 4 [some (.ref o), some (.int x1), some (.int (x2 + (σ.2.1 (o + 20) x3.toNatClampNeg))), some (.int (x3 + 1))] [] σ Q))))) : nh_E kX3_gainOf 4 [some (.ref o), some (.int x1), some (.int x2), some (.int x3)] [] σ Q := by
  refine nE_iload_n dX3_gainOf_4 rfl rfl ?_
  refine nE_aload_n dX3_gainOf_5 rfl rfl ?_
  refine nE_getI fl_X3_73 (sP_0 ho) rfl dX3_gainOf_6 ?_
  refine nE_icmp_ge (tgt := 35) dX3_gainOf_9 (by decide) ⟨fun c1 => ?_, fun c1 => ?_⟩
  · have h := h.1 c1
    refine nE_iload_n dX3_gainOf_35 rfl rfl ?_
    exact nE_iret dX3_gainOf_36 rfl h
  · have h := h.2 c1
    refine nE_iload_n dX3_gainOf_12 rfl rfl ?_
    refine nE_iload_n dX3_gainOf_13 rfl rfl ?_
    refine nE_callN (As := [.int x1, .int x3]) yf_X8_has ⟨by decide, by decide⟩ rfl nl_X3_81 dX3_gainOf_14 rfl rfl (Nat.le_of_ble_eq_true rfl) (Nat.le_of_ble_eq_true rfl) (p_X8_has _ _ ?_)
    refine nE_ifb_eq (tgt := 29) dX3_gainOf_17 (by decide) ⟨fun c2 => ?_, fun c2 => ?_⟩
    · have h := h.1 c2
      refine nE_iinc (v := x3 + 1) dX3_gainOf_29 rfl rfl (by decide) rfl ?_
      refine nE_goto (tgt := 4) dX3_gainOf_32 (by decide) ?_
      exact h
    · have h := h.2 c2
      refine nE_iload_n dX3_gainOf_20 rfl rfl ?_
      refine nE_aload_n dX3_gainOf_21 rfl rfl ?_
      refine nE_getC fl_X3_32 (sP_0 ho) rfl dX3_gainOf_22 ?_
      refine nE_iload_n dX3_gainOf_25 rfl rfl ?_
      obtain ⟨g3, h⟩ := h
      refine nG_iald (j := x3.toNatClampNeg) (sP_20 ho) rfl dX3_gainOf_26 ⟨g3, ?_⟩
      refine nE_iadd dX3_gainOf_27 ?_
      refine nE_istore_n dX3_gainOf_28 rfl rfl (by decide) ?_
      refine nE_iinc (v := x3 + 1) dX3_gainOf_29 rfl rfl (by decide) rfl ?_
      refine nE_goto (tgt := 4) dX3_gainOf_32 (by decide) ?_
      exact h
set_option maxRecDepth 20000 in
theorem sg_X3_shareOf_0 {o : Nat} (ho : isP o) (x1 : Int32) (x2 : Int32) (x3 : Int32) {σ : nh_S} {Q : Option Value → nh_S → Prop} (h : nh_E kX3_shareOf 8 [some (.ref o), some (.int x1), some (.int x2), some (.int x3), some (.long 1000000000), none, some (.int 0), none, none] [] σ Q) : nh_E kX3_shareOf 0 [some (.ref o), some (.int x1), some (.int x2), some (.int x3), none, none, none, none, none] [] σ Q := by
  refine nE_ldc2 kc_X3_85 dX3_shareOf_0 ?_
  refine nE_lstore dX3_shareOf_3 rfl (by decide) ?_
  refine nE_iconst (v := 0) dX3_shareOf_5 (by decide) ?_
  refine nE_istore dX3_shareOf_6 rfl (by decide) ?_
  exact h
set_option maxRecDepth 20000 in
theorem sg_X3_shareOf_8 {o : Nat} (ho : isP o) (x1 : Int32) (x2 : Int32) (x3 : Int32) (x4 : Int64) (x6 : Int32) {σ : nh_S} {Q : Option Value → nh_S → Prop} (h : (σ.1 o 0 ≤ x6 → (Q (some (.long x4)) σ)) ∧ (¬ (σ.1 o 0 ≤ x6) → ((x6 = x2 → (nh_E kX3_shareOf 8 [some (.ref o), some (.int x1), some (.int x2), some (.int x3), some (.long x4), none, some (.int (x6 + 1)), none, none] [] σ Q)) ∧ (¬ (x6 = x2) → ((vp_in x3 4) ∧ (vp_in x6 9) ∧ nh_E kX3_shareOf 8 [some (.ref o), some (.int x1), some (.int x2), some (.int x3), some (.long (if nh_hs x1 x6 then (x4 * ((σ.2.1 (o + 4 + x3.toNatClampNeg) x6.toNatClampNeg).toInt64)) / 100 else x4 - ((x4 * ((σ.2.1 (o + 4 + x3.toNatClampNeg) x6.toNatClampNeg).toInt64)) / 100))), none, some (.int (x6 + 1)), none, none] [] σ Q))))) : nh_E kX3_shareOf 8 [some (.ref o), some (.int x1), some (.int x2), some (.int x3), some (.long x4), none, some (.int x6), none, none] [] σ Q := by
  refine nE_iload dX3_shareOf_8 rfl ?_
  refine nE_aload_n dX3_shareOf_10 rfl rfl ?_
  refine nE_getI fl_X3_87 (sP_0 ho) rfl dX3_shareOf_11 ?_
  refine nE_icmp_ge (tgt := 69) dX3_shareOf_14 (by decide) ⟨fun c1 => ?_, fun c1 => ?_⟩
  · have h := h.1 c1
    refine nE_lload dX3_shareOf_69 rfl ?_
    exact nE_lret dX3_shareOf_71 rfl h
  · have h := h.2 c1
    refine nE_iload dX3_shareOf_17 rfl ?_
    refine nE_iload_n dX3_shareOf_19 rfl rfl ?_
    refine nE_icmp_eq (tgt := 63) dX3_shareOf_20 (by decide) ⟨fun c2 => ?_, fun c2 => ?_⟩
    · have h := h.1 c2
      refine nE_iinc (v := x6 + 1) dX3_shareOf_63 rfl rfl (by decide) rfl ?_
      refine nE_goto (tgt := 8) dX3_shareOf_66 (by decide) ?_
      exact h
    · have h := h.2 c2
      refine nE_lload dX3_shareOf_23 rfl ?_
      refine nE_aload_n dX3_shareOf_25 rfl rfl ?_
      refine nE_getC fl_X3_20 (sP_0 ho) rfl dX3_shareOf_26 ?_
      refine nE_iload_n dX3_shareOf_29 rfl rfl ?_
      obtain ⟨g3, h⟩ := h
      refine nG_aald (j := x3.toNatClampNeg) (sP_3 ho) rfl dX3_shareOf_30 ⟨g3, ?_⟩
      refine nE_iload dX3_shareOf_31 rfl ?_
      obtain ⟨g4, h⟩ := h
      refine nG_iald (j := x6.toNatClampNeg) (sP_r3 ho g3) rfl dX3_shareOf_33 ⟨g4, ?_⟩
      refine nE_i2l dX3_shareOf_34 ?_
      refine nE_lmul dX3_shareOf_35 ?_
      refine nE_ldc2 kc_X3_90 dX3_shareOf_36 ?_
      refine nE_ldiv dX3_shareOf_39 (by decide) ?_
      refine nE_lstore dX3_shareOf_40 rfl (by decide) ?_
      refine nE_iload_n dX3_shareOf_42 rfl rfl ?_
      refine nE_iload dX3_shareOf_43 rfl ?_
      refine nE_callN (As := [.int x1, .int x6]) yf_X8_has ⟨by decide, by decide⟩ rfl nl_X3_81 dX3_shareOf_45 rfl rfl (Nat.le_of_ble_eq_true rfl) (Nat.le_of_ble_eq_true rfl) (p_X8_has _ _ ?_)
      have j5 : nh_E kX3_shareOf 61 [some (.ref o), some (.int x1), some (.int x2), some (.int x3), some (.long x4), none, some (.int x6), some (.long ((x4 * ((σ.2.1 (o + 4 + x3.toNatClampNeg) x6.toNatClampNeg).toInt64)) / 100)), none] [.long (if nh_hs x1 x6 then (x4 * ((σ.2.1 (o + 4 + x3.toNatClampNeg) x6.toNatClampNeg).toInt64)) / 100 else x4 - ((x4 * ((σ.2.1 (o + 4 + x3.toNatClampNeg) x6.toNatClampNeg).toInt64)) / 100))] σ Q := by
        refine nE_lstore dX3_shareOf_61 rfl (by decide) ?_
        refine nE_iinc (v := x6 + 1) dX3_shareOf_63 rfl rfl (by decide) rfl ?_
        refine nE_goto (tgt := 8) dX3_shareOf_66 (by decide) ?_
        refine nE_weak 7 ?_
        exact h
      refine nE_ifb_eq (tgt := 56) dX3_shareOf_48 (by decide) ⟨fun c6 => ?_, fun c6 => ?_⟩
      · skip
        have f7 : (nh_hs x1 x6) = False := eq_false c6
        refine nE_lload dX3_shareOf_56 rfl ?_
        refine nE_lload dX3_shareOf_58 rfl ?_
        refine nE_lsub dX3_shareOf_60 ?_
        exact nh_topl (show ((if nh_hs x1 x6 then (x4 * ((σ.2.1 (o + 4 + x3.toNatClampNeg) x6.toNatClampNeg).toInt64)) / 100 else x4 - ((x4 * ((σ.2.1 (o + 4 + x3.toNatClampNeg) x6.toNatClampNeg).toInt64)) / 100)) : Int64) = x4 - ((x4 * ((σ.2.1 (o + 4 + x3.toNatClampNeg) x6.toNatClampNeg).toInt64)) / 100) from by simp only [if_true, if_false, not_true_eq_false, not_false_eq_true, true_and, and_true, false_and, and_false, true_or, or_true, false_or, or_false, if_pos, if_neg, ite_true, ite_false, f7]) j5
      · skip
        have f8 : (nh_hs x1 x6) = True := eq_true c6
        refine nE_lload dX3_shareOf_51 rfl ?_
        refine nE_goto (tgt := 61) dX3_shareOf_53 (by decide) ?_
        exact nh_topl (show ((if nh_hs x1 x6 then (x4 * ((σ.2.1 (o + 4 + x3.toNatClampNeg) x6.toNatClampNeg).toInt64)) / 100 else x4 - ((x4 * ((σ.2.1 (o + 4 + x3.toNatClampNeg) x6.toNatClampNeg).toInt64)) / 100)) : Int64) = (x4 * ((σ.2.1 (o + 4 + x3.toNatClampNeg) x6.toNatClampNeg).toInt64)) / 100 from by simp only [if_true, if_false, not_true_eq_false, not_false_eq_true, true_and, and_true, false_and, and_false, true_or, or_true, false_or, or_false, if_pos, if_neg, ite_true, ite_false, f8]) j5
set_option maxRecDepth 20000 in
theorem sg_X3_forget_0 {o : Nat} (ho : isP o) {σ : nh_S} {Q : Option Value → nh_S → Prop} (h : nh_E kX3_forget 12 [some (.ref o), some (.int 0)] [] (nh_si (nh_si σ o 0 0) o 1 0) Q) : nh_E kX3_forget 0 [some (.ref o), none] [] σ Q := by
  refine nE_aload_n dX3_forget_0 rfl rfl ?_
  refine nE_iconst (v := 0) dX3_forget_1 (by decide) ?_
  refine nE_putI fl_X3_87 (sP_0 ho) rfl ⟨rfl, rfl⟩ dX3_forget_2 ?_
  refine nE_aload_n dX3_forget_5 rfl rfl ?_
  refine nE_iconst (v := 0) dX3_forget_6 (by decide) ?_
  refine nE_putI fl_X3_73 (sP_0 ho) rfl ⟨rfl, rfl⟩ dX3_forget_7 ?_
  refine nE_iconst (v := 0) dX3_forget_10 (by decide) ?_
  refine nE_istore_n dX3_forget_11 rfl rfl (by decide) ?_
  exact h
set_option maxRecDepth 20000 in
theorem sg_X3_forget_12 {o : Nat} (ho : isP o) (x1 : Int32) {σ : nh_S} {Q : Option Value → nh_S → Prop} (h : (9 ≤ x1 → (Q none σ)) ∧ (¬ (9 ≤ x1) → ((vp_in x1 9) ∧ nh_E kJ7_fill_53178 0 [some (.ref (o + 9 + x1.toNatClampNeg)), some (.int 500), none, none] [] σ (nh_qv fun τ3 => (vp_in x1 9) ∧ nh_E kX3_forget 12 [some (.ref o), some (.int (x1 + 1))] [] (nh_wa τ3 (o + 9 + x1.toNatClampNeg) x1.toNatClampNeg 0) Q)))) : nh_E kX3_forget 12 [some (.ref o), some (.int x1)] [] σ Q := by
  refine nE_iload_n dX3_forget_12 rfl rfl ?_
  refine nE_bipush (v := 9) dX3_forget_13 (by decide) ?_
  refine nE_icmp_ge (tgt := 45) dX3_forget_15 (by decide) ⟨fun c1 => ?_, fun c1 => ?_⟩
  · have h := h.1 c1
    exact nE_vret dX3_forget_45 rfl h
  · have h := h.2 c1
    refine nE_aload_n dX3_forget_18 rfl rfl ?_
    refine nE_getC fl_X3_23 (sP_0 ho) rfl dX3_forget_19 ?_
    refine nE_iload_n dX3_forget_22 rfl rfl ?_
    obtain ⟨g2, h⟩ := h
    refine nG_aald (j := x1.toNatClampNeg) (sP_8 ho) rfl dX3_forget_23 ⟨g2, ?_⟩
    refine nE_sipush (v := 500) dX3_forget_24 (by decide) ?_
    refine nE_callS (As := [.ref (o + 9 + x1.toNatClampNeg), .int 500]) yf_J7_fill_53178 ⟨by decide, by decide⟩ rfl sl_X3_92 dX3_forget_27 rfl rfl (Nat.le_of_ble_eq_true rfl) (Nat.le_of_ble_eq_true rfl) (nE_mono (fun z5 τ3 h => ?_) h)
    obtain ⟨rfl, h⟩ := h
    refine nE_aload_n dX3_forget_30 rfl rfl ?_
    refine nE_getC fl_X3_23 (sP_0 ho) rfl dX3_forget_31 ?_
    refine nE_iload_n dX3_forget_34 rfl rfl ?_
    obtain ⟨g6, h⟩ := h
    refine nG_aald (j := x1.toNatClampNeg) (sP_8 ho) rfl dX3_forget_35 ⟨g6, ?_⟩
    refine nE_iload_n dX3_forget_36 rfl rfl ?_
    refine nE_iconst (v := 0) dX3_forget_37 (by decide) ?_
    refine nG_iast (j := x1.toNatClampNeg) (sP_r8 ho g6) rfl dX3_forget_38 ⟨g6, ?_⟩
    refine nE_iinc (v := x1 + 1) dX3_forget_39 rfl rfl (by decide) rfl ?_
    refine nE_goto (tgt := 12) dX3_forget_42 (by decide) ?_
    exact h
set_option maxRecDepth 20000 in
theorem sg_X3_learnHouse_0 {o : Nat} (ho : isP o) {σ : nh_S} {Q : Option Value → nh_S → Prop} (h : (σ.1 o 0 < 9 → (nh_E kX6_takeNumber 0 [some (.ref 1), some (.int 0), some (.int 60), none, none] [] σ (nh_qi fun r3 τ2 => (vp_in (σ.1 o 0) 9) ∧ nh_E kX6_takeNumber 0 [some (.ref 1), some (.int 0), some (.int 60), none, none] [] (nh_wa τ2 (o + 1) ((σ.1 o 0).toNatClampNeg) r3) (nh_qi fun r7 τ6 => (vp_in (τ2.1 o 0) 9) ∧ nh_E kX3_learnHouse 53 [some (.ref o), some (.ref 1), some (.int 0)] [] (nh_wa τ6 (o + 2) ((τ2.1 o 0).toNatClampNeg) r7) Q)))) ∧ (¬ (σ.1 o 0 < 9) → (nh_E kX6_blame 0 [some (.ref 1), some (.int 3), some (.int (σ.1 1 2))] [] σ (nh_qv fun τ10 => Q none τ10)))) : nh_E kX3_learnHouse 0 [some (.ref o), some (.ref 1), none] [] σ Q := by
  refine nE_aload_n dX3_learnHouse_0 rfl rfl ?_
  refine nE_getI fl_X3_87 (sP_0 ho) rfl dX3_learnHouse_1 ?_
  refine nE_bipush (v := 9) dX3_learnHouse_4 (by decide) ?_
  refine nE_icmp_lt (tgt := 19) dX3_learnHouse_6 (by decide) ⟨fun c1 => ?_, fun c1 => ?_⟩
  · have h := h.1 c1
    refine nE_aload_n dX3_learnHouse_19 rfl rfl ?_
    refine nE_getC fl_X3_9 (sP_0 ho) rfl dX3_learnHouse_20 ?_
    refine nE_aload_n dX3_learnHouse_23 rfl rfl ?_
    refine nE_getI fl_X3_87 (sP_0 ho) rfl dX3_learnHouse_24 ?_
    refine nE_aload_n dX3_learnHouse_27 rfl rfl ?_
    refine nE_iconst (v := 0) dX3_learnHouse_28 (by decide) ?_
    refine nE_bipush (v := 60) dX3_learnHouse_29 (by decide) ?_
    refine nE_callV (As := [.int 0, .int 60]) yf_X6_takeNumber ⟨by decide, by decide⟩ rfl rfl sC_1 rfl vl_X3_105 dX3_learnHouse_31 rfl rfl (Nat.le_of_ble_eq_true rfl) (Nat.le_of_ble_eq_true rfl) (nE_mono (fun z4 τ2 h => ?_) h)
    obtain ⟨r3, rfl, h⟩ := h
    obtain ⟨g5, h⟩ := h
    refine nG_iast (j := (σ.1 o 0).toNatClampNeg) (sP_1 ho) rfl dX3_learnHouse_34 ⟨g5, ?_⟩
    refine nE_aload_n dX3_learnHouse_35 rfl rfl ?_
    refine nE_getC fl_X3_15 (sP_0 ho) rfl dX3_learnHouse_36 ?_
    refine nE_aload_n dX3_learnHouse_39 rfl rfl ?_
    refine nE_getI fl_X3_87 (sP_0 ho) rfl dX3_learnHouse_40 ?_
    refine nE_aload_n dX3_learnHouse_43 rfl rfl ?_
    refine nE_iconst (v := 0) dX3_learnHouse_44 (by decide) ?_
    refine nE_bipush (v := 60) dX3_learnHouse_45 (by decide) ?_
    refine nE_callV (As := [.int 0, .int 60]) yf_X6_takeNumber ⟨by decide, by decide⟩ rfl rfl sC_1 rfl vl_X3_105 dX3_learnHouse_47 rfl rfl (Nat.le_of_ble_eq_true rfl) (Nat.le_of_ble_eq_true rfl) (nE_mono (fun z8 τ6 h => ?_) h)
    obtain ⟨r7, rfl, h⟩ := h
    obtain ⟨g9, h⟩ := h
    refine nG_iast (j := (τ2.1 o 0).toNatClampNeg) (sP_2 ho) rfl dX3_learnHouse_50 ⟨g9, ?_⟩
    refine nE_iconst (v := 0) dX3_learnHouse_51 (by decide) ?_
    refine nE_istore_n dX3_learnHouse_52 rfl rfl (by decide) ?_
    exact h
  · have h := h.2 c1
    refine nE_aload_n dX3_learnHouse_9 rfl rfl ?_
    refine nE_iconst (v := 3) dX3_learnHouse_10 (by decide) ?_
    refine nE_aload_n dX3_learnHouse_11 rfl rfl ?_
    refine nE_getI fl_X3_98 sC_1 rfl dX3_learnHouse_12 ?_
    refine nE_callV (As := [.int 3, .int (σ.1 1 2)]) yf_X6_blame ⟨by decide, by decide⟩ rfl rfl sC_1 rfl vl_X3_101 dX3_learnHouse_15 rfl rfl (Nat.le_of_ble_eq_true rfl) (Nat.le_of_ble_eq_true rfl) (nE_mono (fun z12 τ10 h => ?_) h)
    obtain ⟨rfl, h⟩ := h
    exact nE_vret dX3_learnHouse_18 rfl h
set_option maxRecDepth 20000 in
theorem sg_X3_learnHouse_53 {o : Nat} (ho : isP o) (x2 : Int32) {σ : nh_S} {Q : Option Value → nh_S → Prop} (h : (4 ≤ x2 → (nh_E kX6_endClause 0 [some (.ref 1)] [] σ (nh_qv fun τ2 => Q none (nh_si τ2 o 0 ((τ2.1 o 0) + 1))))) ∧ (¬ (4 ≤ x2) → ((vp_in x2 4) ∧ nh_E kX6_takeNumber 0 [some (.ref 1), some (.int 0), some (.int 100), none, none] [] σ (nh_qi fun r7 τ6 => (vp_in (σ.1 o 0) 9) ∧ nh_E kX3_learnHouse 53 [some (.ref o), some (.ref 1), some (.int (x2 + 1))] [] (nh_wa τ6 (o + 4 + x2.toNatClampNeg) ((σ.1 o 0).toNatClampNeg) r7) Q)))) : nh_E kX3_learnHouse 53 [some (.ref o), some (.ref 1), some (.int x2)] [] σ Q := by
  refine nE_iload_n dX3_learnHouse_53 rfl rfl ?_
  refine nE_iconst (v := 4) dX3_learnHouse_54 (by decide) ?_
  refine nE_icmp_ge (tgt := 82) dX3_learnHouse_55 (by decide) ⟨fun c1 => ?_, fun c1 => ?_⟩
  · have h := h.1 c1
    refine nE_aload_n dX3_learnHouse_82 rfl rfl ?_
    refine nE_callV (As := []) yf_X6_endClause ⟨by decide, by decide⟩ rfl rfl sC_1 rfl vl_X3_109 dX3_learnHouse_83 rfl rfl (Nat.le_of_ble_eq_true rfl) (Nat.le_of_ble_eq_true rfl) (nE_mono (fun z4 τ2 h => ?_) h)
    obtain ⟨rfl, h⟩ := h
    refine nE_aload_n dX3_learnHouse_86 rfl rfl ?_
    refine nE_dup dX3_learnHouse_87 rfl ?_
    refine nE_getI fl_X3_87 (sP_0 ho) rfl dX3_learnHouse_88 ?_
    refine nE_iconst (v := 1) dX3_learnHouse_91 (by decide) ?_
    refine nE_iadd dX3_learnHouse_92 ?_
    refine nE_putI fl_X3_87 (sP_0 ho) rfl ⟨rfl, rfl⟩ dX3_learnHouse_93 ?_
    exact nE_vret dX3_learnHouse_96 rfl h
  · have h := h.2 c1
    refine nE_aload_n dX3_learnHouse_58 rfl rfl ?_
    refine nE_getC fl_X3_20 (sP_0 ho) rfl dX3_learnHouse_59 ?_
    refine nE_iload_n dX3_learnHouse_62 rfl rfl ?_
    obtain ⟨g5, h⟩ := h
    refine nG_aald (j := x2.toNatClampNeg) (sP_3 ho) rfl dX3_learnHouse_63 ⟨g5, ?_⟩
    refine nE_aload_n dX3_learnHouse_64 rfl rfl ?_
    refine nE_getI fl_X3_87 (sP_0 ho) rfl dX3_learnHouse_65 ?_
    refine nE_aload_n dX3_learnHouse_68 rfl rfl ?_
    refine nE_iconst (v := 0) dX3_learnHouse_69 (by decide) ?_
    refine nE_bipush (v := 100) dX3_learnHouse_70 (by decide) ?_
    refine nE_callV (As := [.int 0, .int 100]) yf_X6_takeNumber ⟨by decide, by decide⟩ rfl rfl sC_1 rfl vl_X3_105 dX3_learnHouse_72 rfl rfl (Nat.le_of_ble_eq_true rfl) (Nat.le_of_ble_eq_true rfl) (nE_mono (fun z8 τ6 h => ?_) h)
    obtain ⟨r7, rfl, h⟩ := h
    obtain ⟨g9, h⟩ := h
    refine nG_iast (j := (σ.1 o 0).toNatClampNeg) (sP_r3 ho g5) rfl dX3_learnHouse_75 ⟨g9, ?_⟩
    refine nE_iinc (v := x2 + 1) dX3_learnHouse_76 rfl rfl (by decide) rfl ?_
    refine nE_goto (tgt := 53) dX3_learnHouse_79 (by decide) ?_
    exact h
set_option maxRecDepth 20000 in
theorem sg_X3_learnWay_0 {o : Nat} (ho : isP o) {σ : nh_S} {Q : Option Value → nh_S → Prop} (h : nh_E kX6_takeNumber 0 [some (.ref 1), some (.int 0), some (.int ((σ.1 o 0) - 1)), none, none] [] σ (nh_qi fun r2 τ1 => nh_E kX6_takeNumber 0 [some (.ref 1), some (.int 0), some (.int ((τ1.1 o 0) - 1)), none, none] [] τ1 (nh_qi fun r5 τ4 => (¬ (τ4.1 1 3 = 0) → (nh_E kX6_takeNumber 0 [some (.ref 1), some (.int 1), some (.int 99), none, none] [] τ4 (nh_qi fun r9 τ8 => nh_E kX6_endClause 0 [some (.ref 1)] [] τ8 (nh_qv fun τ11 => (¬ (τ11.1 1 3 = 0) → (Q none τ11)) ∧ (τ11.1 1 3 = 0 → ((vp_in r2 9) ∧ (vp_in r5 9) ∧ Q none (nh_wa (nh_wa τ11 (o + 9 + r2.toNatClampNeg) r5.toNatClampNeg r9) (o + 9 + r5.toNatClampNeg) r2.toNatClampNeg r9))))))) ∧ (τ4.1 1 3 = 0 → ((vp_in r2 9) ∧ (vp_in r5 9) ∧ (500 ≤ τ4.2.1 (o + 9 + r2.toNatClampNeg) r5.toNatClampNeg → (nh_E kX6_takeNumber 0 [some (.ref 1), some (.int 1), some (.int 99), none, none] [] τ4 (nh_qi fun r21 τ20 => nh_E kX6_endClause 0 [some (.ref 1)] [] τ20 (nh_qv fun τ23 => (¬ (τ23.1 1 3 = 0) → (Q none τ23)) ∧ (τ23.1 1 3 = 0 → ((vp_in r2 9) ∧ (vp_in r5 9) ∧ Q none (nh_wa (nh_wa τ23 (o + 9 + r2.toNatClampNeg) r5.toNatClampNeg r21) (o + 9 + r5.toNatClampNeg) r2.toNatClampNeg r21))))))) ∧ (¬ (500 ≤ τ4.2.1 (o + 9 + r2.toNatClampNeg) r5.toNatClampNeg) → (nh_E kX6_blame 0 [some (.ref 1), some (.int 4), some (.int (τ4.1 1 2))] [] τ4 (nh_qv fun τ29 => nh_E kX6_takeNumber 0 [some (.ref 1), some (.int 1), some (.int 99), none, none] [] τ29 (nh_qi fun r33 τ32 => nh_E kX6_endClause 0 [some (.ref 1)] [] τ32 (nh_qv fun τ35 => (¬ (τ35.1 1 3 = 0) → (Q none τ35)) ∧ (τ35.1 1 3 = 0 → ((vp_in r2 9) ∧ (vp_in r5 9) ∧ Q none (nh_wa (nh_wa τ35 (o + 9 + r2.toNatClampNeg) r5.toNatClampNeg r33) (o + 9 + r5.toNatClampNeg) r2.toNatClampNeg r33))))))))))))) : nh_E kX3_learnWay 0 [some (.ref o), some (.ref 1), none, none, none] [] σ Q := by
  refine nE_aload_n dX3_learnWay_0 rfl rfl ?_
  refine nE_iconst (v := 0) dX3_learnWay_1 (by decide) ?_
  refine nE_aload_n dX3_learnWay_2 rfl rfl ?_
  refine nE_getI fl_X3_87 (sP_0 ho) rfl dX3_learnWay_3 ?_
  refine nE_iconst (v := 1) dX3_learnWay_6 (by decide) ?_
  refine nE_isub dX3_learnWay_7 ?_
  refine nE_callV (As := [.int 0, .int ((σ.1 o 0) - 1)]) yf_X6_takeNumber ⟨by decide, by decide⟩ rfl rfl sC_1 rfl vl_X3_105 dX3_learnWay_8 rfl rfl (Nat.le_of_ble_eq_true rfl) (Nat.le_of_ble_eq_true rfl) (nE_mono (fun z3 τ1 h => ?_) h)
  obtain ⟨r2, rfl, h⟩ := h
  refine nE_istore_n dX3_learnWay_11 rfl rfl (by decide) ?_
  refine nE_aload_n dX3_learnWay_12 rfl rfl ?_
  refine nE_iconst (v := 0) dX3_learnWay_13 (by decide) ?_
  refine nE_aload_n dX3_learnWay_14 rfl rfl ?_
  refine nE_getI fl_X3_87 (sP_0 ho) rfl dX3_learnWay_15 ?_
  refine nE_iconst (v := 1) dX3_learnWay_18 (by decide) ?_
  refine nE_isub dX3_learnWay_19 ?_
  refine nE_callV (As := [.int 0, .int ((τ1.1 o 0) - 1)]) yf_X6_takeNumber ⟨by decide, by decide⟩ rfl rfl sC_1 rfl vl_X3_105 dX3_learnWay_20 rfl rfl (Nat.le_of_ble_eq_true rfl) (Nat.le_of_ble_eq_true rfl) (nE_mono (fun z6 τ4 h => ?_) h)
  obtain ⟨r5, rfl, h⟩ := h
  refine nE_istore_n dX3_learnWay_23 rfl rfl (by decide) ?_
  refine nE_aload_n dX3_learnWay_24 rfl rfl ?_
  refine nE_callV (As := []) yf_X6_isSound ⟨by decide, by decide⟩ rfl rfl sC_1 rfl vl_X3_112 dX3_learnWay_25 rfl rfl (Nat.le_of_ble_eq_true rfl) (Nat.le_of_ble_eq_true rfl) (p_X6_isSound ?_)
  refine nE_ifb_eq (tgt := 54) dX3_learnWay_28 (by decide) ⟨fun c7 => ?_, fun c7 => ?_⟩
  · have h := h.1 c7
    refine nE_aload_n dX3_learnWay_54 rfl rfl ?_
    refine nE_iconst (v := 1) dX3_learnWay_55 (by decide) ?_
    refine nE_bipush (v := 99) dX3_learnWay_56 (by decide) ?_
    refine nE_callV (As := [.int 1, .int 99]) yf_X6_takeNumber ⟨by decide, by decide⟩ rfl rfl sC_1 rfl vl_X3_105 dX3_learnWay_58 rfl rfl (Nat.le_of_ble_eq_true rfl) (Nat.le_of_ble_eq_true rfl) (nE_mono (fun z10 τ8 h => ?_) h)
    obtain ⟨r9, rfl, h⟩ := h
    refine nE_istore dX3_learnWay_61 rfl (by decide) ?_
    refine nE_aload_n dX3_learnWay_63 rfl rfl ?_
    refine nE_callV (As := []) yf_X6_endClause ⟨by decide, by decide⟩ rfl rfl sC_1 rfl vl_X3_109 dX3_learnWay_64 rfl rfl (Nat.le_of_ble_eq_true rfl) (Nat.le_of_ble_eq_true rfl) (nE_mono (fun z13 τ11 h => ?_) h)
    obtain ⟨rfl, h⟩ := h
    refine nE_aload_n dX3_learnWay_67 rfl rfl ?_
    refine nE_callV (As := []) yf_X6_isSound ⟨by decide, by decide⟩ rfl rfl sC_1 rfl vl_X3_112 dX3_learnWay_68 rfl rfl (Nat.le_of_ble_eq_true rfl) (Nat.le_of_ble_eq_true rfl) (p_X6_isSound ?_)
    refine nE_ifb_eq (tgt := 94) dX3_learnWay_71 (by decide) ⟨fun c14 => ?_, fun c14 => ?_⟩
    · have h := h.1 c14
      exact nE_vret dX3_learnWay_94 rfl h
    · have h := h.2 c14
      refine nE_aload_n dX3_learnWay_74 rfl rfl ?_
      refine nE_getC fl_X3_23 (sP_0 ho) rfl dX3_learnWay_75 ?_
      refine nE_iload_n dX3_learnWay_78 rfl rfl ?_
      obtain ⟨g15, h⟩ := h
      refine nG_aald (j := r2.toNatClampNeg) (sP_8 ho) rfl dX3_learnWay_79 ⟨g15, ?_⟩
      refine nE_iload_n dX3_learnWay_80 rfl rfl ?_
      refine nE_iload dX3_learnWay_81 rfl ?_
      obtain ⟨g16, h⟩ := h
      refine nG_iast (j := r5.toNatClampNeg) (sP_r8 ho g15) rfl dX3_learnWay_83 ⟨g16, ?_⟩
      refine nE_aload_n dX3_learnWay_84 rfl rfl ?_
      refine nE_getC fl_X3_23 (sP_0 ho) rfl dX3_learnWay_85 ?_
      refine nE_iload_n dX3_learnWay_88 rfl rfl ?_
      refine nG_aald (j := r5.toNatClampNeg) (sP_8 ho) rfl dX3_learnWay_89 ⟨g16, ?_⟩
      refine nE_iload_n dX3_learnWay_90 rfl rfl ?_
      refine nE_iload dX3_learnWay_91 rfl ?_
      refine nG_iast (j := r2.toNatClampNeg) (sP_r8 ho g16) rfl dX3_learnWay_93 ⟨g15, ?_⟩
      exact nE_vret dX3_learnWay_94 rfl h
  · have h := h.2 c7
    refine nE_aload_n dX3_learnWay_31 rfl rfl ?_
    refine nE_getC fl_X3_23 (sP_0 ho) rfl dX3_learnWay_32 ?_
    refine nE_iload_n dX3_learnWay_35 rfl rfl ?_
    obtain ⟨g17, h⟩ := h
    refine nG_aald (j := r2.toNatClampNeg) (sP_8 ho) rfl dX3_learnWay_36 ⟨g17, ?_⟩
    refine nE_iload_n dX3_learnWay_37 rfl rfl ?_
    obtain ⟨g18, h⟩ := h
    refine nG_iald (j := r5.toNatClampNeg) (sP_r8 ho g17) rfl dX3_learnWay_38 ⟨g18, ?_⟩
    refine nE_sipush (v := 500) dX3_learnWay_39 (by decide) ?_
    refine nE_icmp_ge (tgt := 54) dX3_learnWay_42 (by decide) ⟨fun c19 => ?_, fun c19 => ?_⟩
    · have h := h.1 c19
      refine nE_aload_n dX3_learnWay_54 rfl rfl ?_
      refine nE_iconst (v := 1) dX3_learnWay_55 (by decide) ?_
      refine nE_bipush (v := 99) dX3_learnWay_56 (by decide) ?_
      refine nE_callV (As := [.int 1, .int 99]) yf_X6_takeNumber ⟨by decide, by decide⟩ rfl rfl sC_1 rfl vl_X3_105 dX3_learnWay_58 rfl rfl (Nat.le_of_ble_eq_true rfl) (Nat.le_of_ble_eq_true rfl) (nE_mono (fun z22 τ20 h => ?_) h)
      obtain ⟨r21, rfl, h⟩ := h
      refine nE_istore dX3_learnWay_61 rfl (by decide) ?_
      refine nE_aload_n dX3_learnWay_63 rfl rfl ?_
      refine nE_callV (As := []) yf_X6_endClause ⟨by decide, by decide⟩ rfl rfl sC_1 rfl vl_X3_109 dX3_learnWay_64 rfl rfl (Nat.le_of_ble_eq_true rfl) (Nat.le_of_ble_eq_true rfl) (nE_mono (fun z25 τ23 h => ?_) h)
      obtain ⟨rfl, h⟩ := h
      refine nE_aload_n dX3_learnWay_67 rfl rfl ?_
      refine nE_callV (As := []) yf_X6_isSound ⟨by decide, by decide⟩ rfl rfl sC_1 rfl vl_X3_112 dX3_learnWay_68 rfl rfl (Nat.le_of_ble_eq_true rfl) (Nat.le_of_ble_eq_true rfl) (p_X6_isSound ?_)
      refine nE_ifb_eq (tgt := 94) dX3_learnWay_71 (by decide) ⟨fun c26 => ?_, fun c26 => ?_⟩
      · have h := h.1 c26
        exact nE_vret dX3_learnWay_94 rfl h
      · have h := h.2 c26
        refine nE_aload_n dX3_learnWay_74 rfl rfl ?_
        refine nE_getC fl_X3_23 (sP_0 ho) rfl dX3_learnWay_75 ?_
        refine nE_iload_n dX3_learnWay_78 rfl rfl ?_
        obtain ⟨g27, h⟩ := h
        refine nG_aald (j := r2.toNatClampNeg) (sP_8 ho) rfl dX3_learnWay_79 ⟨g27, ?_⟩
        refine nE_iload_n dX3_learnWay_80 rfl rfl ?_
        refine nE_iload dX3_learnWay_81 rfl ?_
        obtain ⟨g28, h⟩ := h
        refine nG_iast (j := r5.toNatClampNeg) (sP_r8 ho g27) rfl dX3_learnWay_83 ⟨g28, ?_⟩
        refine nE_aload_n dX3_learnWay_84 rfl rfl ?_
        refine nE_getC fl_X3_23 (sP_0 ho) rfl dX3_learnWay_85 ?_
        refine nE_iload_n dX3_learnWay_88 rfl rfl ?_
        refine nG_aald (j := r5.toNatClampNeg) (sP_8 ho) rfl dX3_learnWay_89 ⟨g28, ?_⟩
        refine nE_iload_n dX3_learnWay_90 rfl rfl ?_
        refine nE_iload dX3_learnWay_91 rfl ?_
        refine nG_iast (j := r2.toNatClampNeg) (sP_r8 ho g28) rfl dX3_learnWay_93 ⟨g27, ?_⟩
        exact nE_vret dX3_learnWay_94 rfl h
    · have h := h.2 c19
      refine nE_aload_n dX3_learnWay_45 rfl rfl ?_
      refine nE_iconst (v := 4) dX3_learnWay_46 (by decide) ?_
      refine nE_aload_n dX3_learnWay_47 rfl rfl ?_
      refine nE_getI fl_X3_98 sC_1 rfl dX3_learnWay_48 ?_
      refine nE_callV (As := [.int 4, .int (τ4.1 1 2)]) yf_X6_blame ⟨by decide, by decide⟩ rfl rfl sC_1 rfl vl_X3_101 dX3_learnWay_51 rfl rfl (Nat.le_of_ble_eq_true rfl) (Nat.le_of_ble_eq_true rfl) (nE_mono (fun z31 τ29 h => ?_) h)
      obtain ⟨rfl, h⟩ := h
      refine nE_aload_n dX3_learnWay_54 rfl rfl ?_
      refine nE_iconst (v := 1) dX3_learnWay_55 (by decide) ?_
      refine nE_bipush (v := 99) dX3_learnWay_56 (by decide) ?_
      refine nE_callV (As := [.int 1, .int 99]) yf_X6_takeNumber ⟨by decide, by decide⟩ rfl rfl sC_1 rfl vl_X3_105 dX3_learnWay_58 rfl rfl (Nat.le_of_ble_eq_true rfl) (Nat.le_of_ble_eq_true rfl) (nE_mono (fun z34 τ32 h => ?_) h)
      obtain ⟨r33, rfl, h⟩ := h
      refine nE_istore dX3_learnWay_61 rfl (by decide) ?_
      refine nE_aload_n dX3_learnWay_63 rfl rfl ?_
      refine nE_callV (As := []) yf_X6_endClause ⟨by decide, by decide⟩ rfl rfl sC_1 rfl vl_X3_109 dX3_learnWay_64 rfl rfl (Nat.le_of_ble_eq_true rfl) (Nat.le_of_ble_eq_true rfl) (nE_mono (fun z37 τ35 h => ?_) h)
      obtain ⟨rfl, h⟩ := h
      refine nE_aload_n dX3_learnWay_67 rfl rfl ?_
      refine nE_callV (As := []) yf_X6_isSound ⟨by decide, by decide⟩ rfl rfl sC_1 rfl vl_X3_112 dX3_learnWay_68 rfl rfl (Nat.le_of_ble_eq_true rfl) (Nat.le_of_ble_eq_true rfl) (p_X6_isSound ?_)
      refine nE_ifb_eq (tgt := 94) dX3_learnWay_71 (by decide) ⟨fun c38 => ?_, fun c38 => ?_⟩
      · have h := h.1 c38
        exact nE_vret dX3_learnWay_94 rfl h
      · have h := h.2 c38
        refine nE_aload_n dX3_learnWay_74 rfl rfl ?_
        refine nE_getC fl_X3_23 (sP_0 ho) rfl dX3_learnWay_75 ?_
        refine nE_iload_n dX3_learnWay_78 rfl rfl ?_
        obtain ⟨g39, h⟩ := h
        refine nG_aald (j := r2.toNatClampNeg) (sP_8 ho) rfl dX3_learnWay_79 ⟨g39, ?_⟩
        refine nE_iload_n dX3_learnWay_80 rfl rfl ?_
        refine nE_iload dX3_learnWay_81 rfl ?_
        obtain ⟨g40, h⟩ := h
        refine nG_iast (j := r5.toNatClampNeg) (sP_r8 ho g39) rfl dX3_learnWay_83 ⟨g40, ?_⟩
        refine nE_aload_n dX3_learnWay_84 rfl rfl ?_
        refine nE_getC fl_X3_23 (sP_0 ho) rfl dX3_learnWay_85 ?_
        refine nE_iload_n dX3_learnWay_88 rfl rfl ?_
        refine nG_aald (j := r5.toNatClampNeg) (sP_8 ho) rfl dX3_learnWay_89 ⟨g40, ?_⟩
        refine nE_iload_n dX3_learnWay_90 rfl rfl ?_
        refine nE_iload dX3_learnWay_91 rfl ?_
        refine nG_iast (j := r2.toNatClampNeg) (sP_r8 ho g40) rfl dX3_learnWay_93 ⟨g39, ?_⟩
        exact nE_vret dX3_learnWay_94 rfl h
set_option maxRecDepth 20000 in
theorem sg_X3_learnPart_0 {o : Nat} (ho : isP o) {σ : nh_S} {Q : Option Value → nh_S → Prop} (h : (σ.1 o 1 < 12 → (nh_E kX6_takeNumber 0 [some (.ref 1), some (.int 0), some (.int ((σ.1 o 0) - 1)), none, none] [] σ (nh_qi fun r3 τ2 => (vp_in (σ.1 o 1) 12) ∧ nh_E kX6_takeNumber 0 [some (.ref 1), some (.int 0), some (.int 60), none, none] [] (nh_wa τ2 (o + 18) ((σ.1 o 1).toNatClampNeg) r3) (nh_qi fun r7 τ6 => (vp_in (τ2.1 o 1) 12) ∧ nh_E kX6_takeNumber 0 [some (.ref 1), some (.int 0), some (.int 99), none, none] [] (nh_wa τ6 (o + 19) ((τ2.1 o 1).toNatClampNeg) r7) (nh_qi fun r11 τ10 => (vp_in (τ6.1 o 1) 12) ∧ nh_E kX6_takesWord 0 [some (.ref 1), some (.ref 903), none, none] [] (nh_wa τ10 (o + 20) ((τ6.1 o 1).toNatClampNeg) r11) (nh_qi fun r15 τ14 => (r15 = 0 → ((vp_in (τ10.1 o 1) 12) ∧ nh_E kX6_endClause 0 [some (.ref 1)] [] (nh_wa τ14 (o + 21) ((τ10.1 o 1).toNatClampNeg) 0) (nh_qv fun τ19 => Q none (nh_si τ19 o 1 ((τ19.1 o 1) + 1))))) ∧ (¬ (r15 = 0) → (nh_E kX3_learnBehind 0 [some (.ref o), some (.ref 1), none, none, none] [] τ14 (nh_qi fun r23 τ22 => (vp_in (τ10.1 o 1) 12) ∧ nh_E kX6_endClause 0 [some (.ref 1)] [] (nh_wa τ22 (o + 21) ((τ10.1 o 1).toNatClampNeg) r23) (nh_qv fun τ26 => Q none (nh_si τ26 o 1 ((τ26.1 o 1) + 1)))))))))))) ∧ (¬ (σ.1 o 1 < 12) → (nh_E kX6_blame 0 [some (.ref 1), some (.int 3), some (.int (σ.1 1 2))] [] σ (nh_qv fun τ29 => Q none τ29)))) : nh_E kX3_learnPart 0 [some (.ref o), some (.ref 1)] [] σ Q := by
  refine nE_aload_n dX3_learnPart_0 rfl rfl ?_
  refine nE_getI fl_X3_73 (sP_0 ho) rfl dX3_learnPart_1 ?_
  refine nE_bipush (v := 12) dX3_learnPart_4 (by decide) ?_
  refine nE_icmp_lt (tgt := 19) dX3_learnPart_6 (by decide) ⟨fun c1 => ?_, fun c1 => ?_⟩
  · have h := h.1 c1
    refine nE_aload_n dX3_learnPart_19 rfl rfl ?_
    refine nE_getC fl_X3_26 (sP_0 ho) rfl dX3_learnPart_20 ?_
    refine nE_aload_n dX3_learnPart_23 rfl rfl ?_
    refine nE_getI fl_X3_73 (sP_0 ho) rfl dX3_learnPart_24 ?_
    refine nE_aload_n dX3_learnPart_27 rfl rfl ?_
    refine nE_iconst (v := 0) dX3_learnPart_28 (by decide) ?_
    refine nE_aload_n dX3_learnPart_29 rfl rfl ?_
    refine nE_getI fl_X3_87 (sP_0 ho) rfl dX3_learnPart_30 ?_
    refine nE_iconst (v := 1) dX3_learnPart_33 (by decide) ?_
    refine nE_isub dX3_learnPart_34 ?_
    refine nE_callV (As := [.int 0, .int ((σ.1 o 0) - 1)]) yf_X6_takeNumber ⟨by decide, by decide⟩ rfl rfl sC_1 rfl vl_X3_105 dX3_learnPart_35 rfl rfl (Nat.le_of_ble_eq_true rfl) (Nat.le_of_ble_eq_true rfl) (nE_mono (fun z4 τ2 h => ?_) h)
    obtain ⟨r3, rfl, h⟩ := h
    obtain ⟨g5, h⟩ := h
    refine nG_iast (j := (σ.1 o 1).toNatClampNeg) (sP_18 ho) rfl dX3_learnPart_38 ⟨g5, ?_⟩
    refine nE_aload_n dX3_learnPart_39 rfl rfl ?_
    refine nE_getC fl_X3_29 (sP_0 ho) rfl dX3_learnPart_40 ?_
    refine nE_aload_n dX3_learnPart_43 rfl rfl ?_
    refine nE_getI fl_X3_73 (sP_0 ho) rfl dX3_learnPart_44 ?_
    refine nE_aload_n dX3_learnPart_47 rfl rfl ?_
    refine nE_iconst (v := 0) dX3_learnPart_48 (by decide) ?_
    refine nE_bipush (v := 60) dX3_learnPart_49 (by decide) ?_
    refine nE_callV (As := [.int 0, .int 60]) yf_X6_takeNumber ⟨by decide, by decide⟩ rfl rfl sC_1 rfl vl_X3_105 dX3_learnPart_51 rfl rfl (Nat.le_of_ble_eq_true rfl) (Nat.le_of_ble_eq_true rfl) (nE_mono (fun z8 τ6 h => ?_) h)
    obtain ⟨r7, rfl, h⟩ := h
    obtain ⟨g9, h⟩ := h
    refine nG_iast (j := (τ2.1 o 1).toNatClampNeg) (sP_19 ho) rfl dX3_learnPart_54 ⟨g9, ?_⟩
    refine nE_aload_n dX3_learnPart_55 rfl rfl ?_
    refine nE_getC fl_X3_32 (sP_0 ho) rfl dX3_learnPart_56 ?_
    refine nE_aload_n dX3_learnPart_59 rfl rfl ?_
    refine nE_getI fl_X3_73 (sP_0 ho) rfl dX3_learnPart_60 ?_
    refine nE_aload_n dX3_learnPart_63 rfl rfl ?_
    refine nE_iconst (v := 0) dX3_learnPart_64 (by decide) ?_
    refine nE_bipush (v := 99) dX3_learnPart_65 (by decide) ?_
    refine nE_callV (As := [.int 0, .int 99]) yf_X6_takeNumber ⟨by decide, by decide⟩ rfl rfl sC_1 rfl vl_X3_105 dX3_learnPart_67 rfl rfl (Nat.le_of_ble_eq_true rfl) (Nat.le_of_ble_eq_true rfl) (nE_mono (fun z12 τ10 h => ?_) h)
    obtain ⟨r11, rfl, h⟩ := h
    obtain ⟨g13, h⟩ := h
    refine nG_iast (j := (τ6.1 o 1).toNatClampNeg) (sP_20 ho) rfl dX3_learnPart_70 ⟨g13, ?_⟩
    refine nE_aload_n dX3_learnPart_71 rfl rfl ?_
    refine nE_getC fl_X3_35 (sP_0 ho) rfl dX3_learnPart_72 ?_
    refine nE_aload_n dX3_learnPart_75 rfl rfl ?_
    refine nE_getI fl_X3_73 (sP_0 ho) rfl dX3_learnPart_76 ?_
    refine nE_aload_n dX3_learnPart_79 rfl rfl ?_
    refine nE_ldcS (j := 3) (tx := "on") (by decide +kernel) dX3_learnPart_80 ?_
    refine nE_callV (As := [.ref 903]) yf_X6_takesWord ⟨by decide, by decide⟩ rfl rfl sC_1 rfl vl_X3_49 dX3_learnPart_82 rfl rfl (Nat.le_of_ble_eq_true rfl) (Nat.le_of_ble_eq_true rfl) (nE_mono (fun z16 τ14 h => ?_) h)
    obtain ⟨r15, rfl, h⟩ := h
    refine nE_if_eq (tgt := 96) dX3_learnPart_85 (by decide) ⟨fun c17 => ?_, fun c17 => ?_⟩
    · have h := h.1 c17
      refine nE_iconst (v := 0) dX3_learnPart_96 (by decide) ?_
      obtain ⟨g18, h⟩ := h
      refine nG_iast (j := (τ10.1 o 1).toNatClampNeg) (sP_21 ho) rfl dX3_learnPart_97 ⟨g18, ?_⟩
      refine nE_aload_n dX3_learnPart_98 rfl rfl ?_
      refine nE_callV (As := []) yf_X6_endClause ⟨by decide, by decide⟩ rfl rfl sC_1 rfl vl_X3_109 dX3_learnPart_99 rfl rfl (Nat.le_of_ble_eq_true rfl) (Nat.le_of_ble_eq_true rfl) (nE_mono (fun z21 τ19 h => ?_) h)
      obtain ⟨rfl, h⟩ := h
      refine nE_aload_n dX3_learnPart_102 rfl rfl ?_
      refine nE_dup dX3_learnPart_103 rfl ?_
      refine nE_getI fl_X3_73 (sP_0 ho) rfl dX3_learnPart_104 ?_
      refine nE_iconst (v := 1) dX3_learnPart_107 (by decide) ?_
      refine nE_iadd dX3_learnPart_108 ?_
      refine nE_putI fl_X3_73 (sP_0 ho) rfl ⟨rfl, rfl⟩ dX3_learnPart_109 ?_
      exact nE_vret dX3_learnPart_112 rfl h
    · have h := h.2 c17
      refine nE_aload_n dX3_learnPart_88 rfl rfl ?_
      refine nE_aload_n dX3_learnPart_89 rfl rfl ?_
      refine nE_callV (As := [.ref 1]) yf_X3_learnBehind ⟨by decide, by decide⟩ rfl rfl (sP_0 ho) rfl vl_X3_117 dX3_learnPart_90 rfl rfl (Nat.le_of_ble_eq_true rfl) (Nat.le_of_ble_eq_true rfl) (nE_mono (fun z24 τ22 h => ?_) h)
      obtain ⟨r23, rfl, h⟩ := h
      refine nE_goto (tgt := 97) dX3_learnPart_93 (by decide) ?_
      obtain ⟨g25, h⟩ := h
      refine nG_iast (j := (τ10.1 o 1).toNatClampNeg) (sP_21 ho) rfl dX3_learnPart_97 ⟨g25, ?_⟩
      refine nE_aload_n dX3_learnPart_98 rfl rfl ?_
      refine nE_callV (As := []) yf_X6_endClause ⟨by decide, by decide⟩ rfl rfl sC_1 rfl vl_X3_109 dX3_learnPart_99 rfl rfl (Nat.le_of_ble_eq_true rfl) (Nat.le_of_ble_eq_true rfl) (nE_mono (fun z28 τ26 h => ?_) h)
      obtain ⟨rfl, h⟩ := h
      refine nE_aload_n dX3_learnPart_102 rfl rfl ?_
      refine nE_dup dX3_learnPart_103 rfl ?_
      refine nE_getI fl_X3_73 (sP_0 ho) rfl dX3_learnPart_104 ?_
      refine nE_iconst (v := 1) dX3_learnPart_107 (by decide) ?_
      refine nE_iadd dX3_learnPart_108 ?_
      refine nE_putI fl_X3_73 (sP_0 ho) rfl ⟨rfl, rfl⟩ dX3_learnPart_109 ?_
      exact nE_vret dX3_learnPart_112 rfl h
  · have h := h.2 c1
    refine nE_aload_n dX3_learnPart_9 rfl rfl ?_
    refine nE_iconst (v := 3) dX3_learnPart_10 (by decide) ?_
    refine nE_aload_n dX3_learnPart_11 rfl rfl ?_
    refine nE_getI fl_X3_98 sC_1 rfl dX3_learnPart_12 ?_
    refine nE_callV (As := [.int 3, .int (σ.1 1 2)]) yf_X6_blame ⟨by decide, by decide⟩ rfl rfl sC_1 rfl vl_X3_101 dX3_learnPart_15 rfl rfl (Nat.le_of_ble_eq_true rfl) (Nat.le_of_ble_eq_true rfl) (nE_mono (fun z31 τ29 h => ?_) h)
    obtain ⟨rfl, h⟩ := h
    exact nE_vret dX3_learnPart_18 rfl h
set_option maxRecDepth 20000 in
theorem sg_X3_learnBehind_0 {o : Nat} (ho : isP o) {σ : nh_S} {Q : Option Value → nh_S → Prop} (h : nh_E kX3_learnBehind 4 [some (.ref o), some (.ref 1), some (.int 0), some (.int 0), none] [] σ Q) : nh_E kX3_learnBehind 0 [some (.ref o), some (.ref 1), none, none, none] [] σ Q := by
  refine nE_iconst (v := 0) dX3_learnBehind_0 (by decide) ?_
  refine nE_istore_n dX3_learnBehind_1 rfl rfl (by decide) ?_
  refine nE_iconst (v := 0) dX3_learnBehind_2 (by decide) ?_
  refine nE_istore_n dX3_learnBehind_3 rfl rfl (by decide) ?_
  exact h
set_option maxRecDepth 20000 in
theorem sg_X3_learnBehind_4 {o : Nat} (ho : isP o) (x2 : Int32) (x3 : Int32) {σ : nh_S} {Q : Option Value → nh_S → Prop} (h : (12 ≤ x3 → (Q (some (.int x2)) σ)) ∧ (¬ (12 ≤ x3) → ((¬ (σ.1 1 3 = 0) → (Q (some (.int x2)) σ)) ∧ (σ.1 1 3 = 0 → (nh_E kX6_takeNumber 0 [some (.ref 1), some (.int 0), some (.int ((σ.1 o 1) - 1)), none, none] [] σ (nh_qi fun r4 τ3 => (¬ (τ3.1 1 3 = 0) → (nh_E kX6_takesSign 0 [some (.ref 1), some (.int 44)] [] τ3 (nh_qi fun r8 τ7 => (¬ (r8 = 0) → (nh_E kX3_learnBehind 4 [some (.ref o), some (.ref 1), some (.int (x2 ||| (1 <<< (r4 &&& 31)))), some (.int (x3 + 1)), none] [] τ7 Q)) ∧ (r8 = 0 → (Q (some (.int (x2 ||| (1 <<< (r4 &&& 31))))) τ7))))) ∧ (τ3.1 1 3 = 0 → ((¬ (nh_hs x2 r4) → (nh_E kX6_takesSign 0 [some (.ref 1), some (.int 44)] [] τ3 (nh_qi fun r13 τ12 => (¬ (r13 = 0) → (nh_E kX3_learnBehind 4 [some (.ref o), some (.ref 1), some (.int (x2 ||| (1 <<< (r4 &&& 31)))), some (.int (x3 + 1)), none] [] τ12 Q)) ∧ (r13 = 0 → (Q (some (.int (x2 ||| (1 <<< (r4 &&& 31))))) τ12))))) ∧ (nh_hs x2 r4 → (nh_E kX6_blame 0 [some (.ref 1), some (.int 4), some (.int (τ3.1 1 2))] [] τ3 (nh_qv fun τ16 => nh_E kX6_takesSign 0 [some (.ref 1), some (.int 44)] [] τ16 (nh_qi fun r20 τ19 => (¬ (r20 = 0) → (nh_E kX3_learnBehind 4 [some (.ref o), some (.ref 1), some (.int (x2 ||| (1 <<< (r4 &&& 31)))), some (.int (x3 + 1)), none] [] τ19 Q)) ∧ (r20 = 0 → (Q (some (.int (x2 ||| (1 <<< (r4 &&& 31))))) τ19)))))))))))))) : nh_E kX3_learnBehind 4 [some (.ref o), some (.ref 1), some (.int x2), some (.int x3), none] [] σ Q := by
  refine nE_iload_n dX3_learnBehind_4 rfl rfl ?_
  refine nE_bipush (v := 12) dX3_learnBehind_5 (by decide) ?_
  refine nE_icmp_ge (tgt := 80) dX3_learnBehind_7 (by decide) ⟨fun c1 => ?_, fun c1 => ?_⟩
  · have h := h.1 c1
    refine nE_iload_n dX3_learnBehind_80 rfl rfl ?_
    exact nE_iret dX3_learnBehind_81 rfl h
  · have h := h.2 c1
    refine nE_aload_n dX3_learnBehind_10 rfl rfl ?_
    refine nE_callV (As := []) yf_X6_isSound ⟨by decide, by decide⟩ rfl rfl sC_1 rfl vl_X3_112 dX3_learnBehind_11 rfl rfl (Nat.le_of_ble_eq_true rfl) (Nat.le_of_ble_eq_true rfl) (p_X6_isSound ?_)
    refine nE_ifb_eq (tgt := 80) dX3_learnBehind_14 (by decide) ⟨fun c2 => ?_, fun c2 => ?_⟩
    · have h := h.1 c2
      refine nE_iload_n dX3_learnBehind_80 rfl rfl ?_
      exact nE_iret dX3_learnBehind_81 rfl h
    · have h := h.2 c2
      refine nE_aload_n dX3_learnBehind_17 rfl rfl ?_
      refine nE_iconst (v := 0) dX3_learnBehind_18 (by decide) ?_
      refine nE_aload_n dX3_learnBehind_19 rfl rfl ?_
      refine nE_getI fl_X3_73 (sP_0 ho) rfl dX3_learnBehind_20 ?_
      refine nE_iconst (v := 1) dX3_learnBehind_23 (by decide) ?_
      refine nE_isub dX3_learnBehind_24 ?_
      refine nE_callV (As := [.int 0, .int ((σ.1 o 1) - 1)]) yf_X6_takeNumber ⟨by decide, by decide⟩ rfl rfl sC_1 rfl vl_X3_105 dX3_learnBehind_25 rfl rfl (Nat.le_of_ble_eq_true rfl) (Nat.le_of_ble_eq_true rfl) (nE_mono (fun z5 τ3 h => ?_) h)
      obtain ⟨r4, rfl, h⟩ := h
      refine nE_istore dX3_learnBehind_28 rfl (by decide) ?_
      refine nE_aload_n dX3_learnBehind_30 rfl rfl ?_
      refine nE_callV (As := []) yf_X6_isSound ⟨by decide, by decide⟩ rfl rfl sC_1 rfl vl_X3_112 dX3_learnBehind_31 rfl rfl (Nat.le_of_ble_eq_true rfl) (Nat.le_of_ble_eq_true rfl) (p_X6_isSound ?_)
      refine nE_ifb_eq (tgt := 55) dX3_learnBehind_34 (by decide) ⟨fun c6 => ?_, fun c6 => ?_⟩
      · have h := h.1 c6
        refine nE_iload_n dX3_learnBehind_55 rfl rfl ?_
        refine nE_iconst (v := 1) dX3_learnBehind_56 (by decide) ?_
        refine nE_iload dX3_learnBehind_57 rfl ?_
        refine nE_ishl dX3_learnBehind_59 ?_
        refine nE_ior dX3_learnBehind_60 ?_
        refine nE_istore_n dX3_learnBehind_61 rfl rfl (by decide) ?_
        refine nE_aload_n dX3_learnBehind_62 rfl rfl ?_
        refine nE_bipush (v := 44) dX3_learnBehind_63 (by decide) ?_
        refine nE_callV (As := [.int 44]) yf_X6_takesSign ⟨by decide, by decide⟩ rfl rfl sC_1 rfl vl_X3_121 dX3_learnBehind_65 rfl rfl (Nat.le_of_ble_eq_true rfl) (Nat.le_of_ble_eq_true rfl) (nE_mono (fun z9 τ7 h => ?_) h)
        obtain ⟨r8, rfl, h⟩ := h
        refine nE_if_ne (tgt := 74) dX3_learnBehind_68 (by decide) ⟨fun c10 => ?_, fun c10 => ?_⟩
        · have h := h.1 c10
          refine nE_iinc (v := x3 + 1) dX3_learnBehind_74 rfl rfl (by decide) rfl ?_
          refine nE_goto (tgt := 4) dX3_learnBehind_77 (by decide) ?_
          refine nE_weak 4 ?_
          exact h
        · have h := h.2 c10
          refine nE_goto (tgt := 80) dX3_learnBehind_71 (by decide) ?_
          refine nE_iload_n dX3_learnBehind_80 rfl rfl ?_
          exact nE_iret dX3_learnBehind_81 rfl h
      · have h := h.2 c6
        refine nE_iload_n dX3_learnBehind_37 rfl rfl ?_
        refine nE_iload dX3_learnBehind_38 rfl ?_
        refine nE_callN (As := [.int x2, .int r4]) yf_X8_has ⟨by decide, by decide⟩ rfl nl_X3_81 dX3_learnBehind_40 rfl rfl (Nat.le_of_ble_eq_true rfl) (Nat.le_of_ble_eq_true rfl) (p_X8_has _ _ ?_)
        refine nE_ifb_eq (tgt := 55) dX3_learnBehind_43 (by decide) ⟨fun c11 => ?_, fun c11 => ?_⟩
        · have h := h.1 c11
          refine nE_iload_n dX3_learnBehind_55 rfl rfl ?_
          refine nE_iconst (v := 1) dX3_learnBehind_56 (by decide) ?_
          refine nE_iload dX3_learnBehind_57 rfl ?_
          refine nE_ishl dX3_learnBehind_59 ?_
          refine nE_ior dX3_learnBehind_60 ?_
          refine nE_istore_n dX3_learnBehind_61 rfl rfl (by decide) ?_
          refine nE_aload_n dX3_learnBehind_62 rfl rfl ?_
          refine nE_bipush (v := 44) dX3_learnBehind_63 (by decide) ?_
          refine nE_callV (As := [.int 44]) yf_X6_takesSign ⟨by decide, by decide⟩ rfl rfl sC_1 rfl vl_X3_121 dX3_learnBehind_65 rfl rfl (Nat.le_of_ble_eq_true rfl) (Nat.le_of_ble_eq_true rfl) (nE_mono (fun z14 τ12 h => ?_) h)
          obtain ⟨r13, rfl, h⟩ := h
          refine nE_if_ne (tgt := 74) dX3_learnBehind_68 (by decide) ⟨fun c15 => ?_, fun c15 => ?_⟩
          · have h := h.1 c15
            refine nE_iinc (v := x3 + 1) dX3_learnBehind_74 rfl rfl (by decide) rfl ?_
            refine nE_goto (tgt := 4) dX3_learnBehind_77 (by decide) ?_
            refine nE_weak 4 ?_
            exact h
          · have h := h.2 c15
            refine nE_goto (tgt := 80) dX3_learnBehind_71 (by decide) ?_
            refine nE_iload_n dX3_learnBehind_80 rfl rfl ?_
            exact nE_iret dX3_learnBehind_81 rfl h
        · have h := h.2 c11
          refine nE_aload_n dX3_learnBehind_46 rfl rfl ?_
          refine nE_iconst (v := 4) dX3_learnBehind_47 (by decide) ?_
          refine nE_aload_n dX3_learnBehind_48 rfl rfl ?_
          refine nE_getI fl_X3_98 sC_1 rfl dX3_learnBehind_49 ?_
          refine nE_callV (As := [.int 4, .int (τ3.1 1 2)]) yf_X6_blame ⟨by decide, by decide⟩ rfl rfl sC_1 rfl vl_X3_101 dX3_learnBehind_52 rfl rfl (Nat.le_of_ble_eq_true rfl) (Nat.le_of_ble_eq_true rfl) (nE_mono (fun z18 τ16 h => ?_) h)
          obtain ⟨rfl, h⟩ := h
          refine nE_iload_n dX3_learnBehind_55 rfl rfl ?_
          refine nE_iconst (v := 1) dX3_learnBehind_56 (by decide) ?_
          refine nE_iload dX3_learnBehind_57 rfl ?_
          refine nE_ishl dX3_learnBehind_59 ?_
          refine nE_ior dX3_learnBehind_60 ?_
          refine nE_istore_n dX3_learnBehind_61 rfl rfl (by decide) ?_
          refine nE_aload_n dX3_learnBehind_62 rfl rfl ?_
          refine nE_bipush (v := 44) dX3_learnBehind_63 (by decide) ?_
          refine nE_callV (As := [.int 44]) yf_X6_takesSign ⟨by decide, by decide⟩ rfl rfl sC_1 rfl vl_X3_121 dX3_learnBehind_65 rfl rfl (Nat.le_of_ble_eq_true rfl) (Nat.le_of_ble_eq_true rfl) (nE_mono (fun z21 τ19 h => ?_) h)
          obtain ⟨r20, rfl, h⟩ := h
          refine nE_if_ne (tgt := 74) dX3_learnBehind_68 (by decide) ⟨fun c22 => ?_, fun c22 => ?_⟩
          · have h := h.1 c22
            refine nE_iinc (v := x3 + 1) dX3_learnBehind_74 rfl rfl (by decide) rfl ?_
            refine nE_goto (tgt := 4) dX3_learnBehind_77 (by decide) ?_
            refine nE_weak 4 ?_
            exact h
          · have h := h.2 c22
            refine nE_goto (tgt := 80) dX3_learnBehind_71 (by decide) ?_
            refine nE_iload_n dX3_learnBehind_80 rfl rfl ?_
            exact nE_iret dX3_learnBehind_81 rfl h
set_option maxRecDepth 20000 in
theorem sg_X3_shortenWays_0 {o : Nat} (ho : isP o) {σ : nh_S} {Q : Option Value → nh_S → Prop} (h : nh_E kX3_shortenWays 2 [some (.ref o), some (.int 0), none, none] [] σ Q) : nh_E kX3_shortenWays 0 [some (.ref o), none, none, none] [] σ Q := by
  refine nE_iconst (v := 0) dX3_shortenWays_0 (by decide) ?_
  refine nE_istore_n dX3_shortenWays_1 rfl rfl (by decide) ?_
  exact h
set_option maxRecDepth 20000 in
theorem sg_X3_shortenWays_2 {o : Nat} (ho : isP o) (x1 : Int32) {σ : nh_S} {Q : Option Value → nh_S → Prop} (h : (σ.1 o 0 ≤ x1 → (Q none σ)) ∧ (¬ (σ.1 o 0 ≤ x1) → (nh_E kX3_shortenWays 12 [some (.ref o), some (.int x1), some (.int 0), none] [] σ Q))) : nh_E kX3_shortenWays 2 [some (.ref o), some (.int x1), none, none] [] σ Q := by
  refine nE_iload_n dX3_shortenWays_2 rfl rfl ?_
  refine nE_aload_n dX3_shortenWays_3 rfl rfl ?_
  refine nE_getI fl_X3_87 (sP_0 ho) rfl dX3_shortenWays_4 ?_
  refine nE_icmp_ge (tgt := 84) dX3_shortenWays_7 (by decide) ⟨fun c1 => ?_, fun c1 => ?_⟩
  · have h := h.1 c1
    exact nE_vret dX3_shortenWays_84 rfl h
  · have h := h.2 c1
    refine nE_iconst (v := 0) dX3_shortenWays_10 (by decide) ?_
    refine nE_istore_n dX3_shortenWays_11 rfl rfl (by decide) ?_
    exact h
set_option maxRecDepth 20000 in
theorem sg_X3_shortenWays_12 {o : Nat} (ho : isP o) (x1 : Int32) (x2 : Int32) {σ : nh_S} {Q : Option Value → nh_S → Prop} (h : (σ.1 o 0 ≤ x2 → (nh_E kX3_shortenWays 2 [some (.ref o), some (.int (x1 + 1)), none, none] [] σ Q)) ∧ (¬ (σ.1 o 0 ≤ x2) → (nh_E kX3_shortenWays 22 [some (.ref o), some (.int x1), some (.int x2), some (.int 0)] [] σ Q))) : nh_E kX3_shortenWays 12 [some (.ref o), some (.int x1), some (.int x2), none] [] σ Q := by
  refine nE_iload_n dX3_shortenWays_12 rfl rfl ?_
  refine nE_aload_n dX3_shortenWays_13 rfl rfl ?_
  refine nE_getI fl_X3_87 (sP_0 ho) rfl dX3_shortenWays_14 ?_
  refine nE_icmp_ge (tgt := 78) dX3_shortenWays_17 (by decide) ⟨fun c1 => ?_, fun c1 => ?_⟩
  · have h := h.1 c1
    refine nE_iinc (v := x1 + 1) dX3_shortenWays_78 rfl rfl (by decide) rfl ?_
    refine nE_goto (tgt := 2) dX3_shortenWays_81 (by decide) ?_
    refine nE_weak 2 ?_
    exact h
  · have h := h.2 c1
    refine nE_iconst (v := 0) dX3_shortenWays_20 (by decide) ?_
    refine nE_istore_n dX3_shortenWays_21 rfl rfl (by decide) ?_
    exact h
set_option maxRecDepth 20000 in
theorem sg_X3_shortenWays_22 {o : Nat} (ho : isP o) (x1 : Int32) (x2 : Int32) (x3 : Int32) {σ : nh_S} {Q : Option Value → nh_S → Prop} (h : (σ.1 o 0 ≤ x3 → (nh_E kX3_shortenWays 12 [some (.ref o), some (.int x1), some (.int (x2 + 1)), none] [] σ Q)) ∧ (¬ (σ.1 o 0 ≤ x3) → ((vp_in x2 9) ∧ (vp_in x3 9) ∧ (vp_in x1 9) ∧ nh_E kX3_shortenWays 22 [some (.ref o), some (.int x1), some (.int x2), some (.int (x3 + 1))] [] (nh_wa σ (o + 9 + x2.toNatClampNeg) x3.toNatClampNeg (if ((σ.2.1 (o + 9 + x2.toNatClampNeg) x1.toNatClampNeg) + (σ.2.1 (o + 9 + x1.toNatClampNeg) x3.toNatClampNeg)) < (σ.2.1 (o + 9 + x2.toNatClampNeg) x3.toNatClampNeg) then ((σ.2.1 (o + 9 + x2.toNatClampNeg) x1.toNatClampNeg) + (σ.2.1 (o + 9 + x1.toNatClampNeg) x3.toNatClampNeg)) else (σ.2.1 (o + 9 + x2.toNatClampNeg) x3.toNatClampNeg))) Q))) : nh_E kX3_shortenWays 22 [some (.ref o), some (.int x1), some (.int x2), some (.int x3)] [] σ Q := by
  refine nE_iload_n dX3_shortenWays_22 rfl rfl ?_
  refine nE_aload_n dX3_shortenWays_23 rfl rfl ?_
  refine nE_getI fl_X3_87 (sP_0 ho) rfl dX3_shortenWays_24 ?_
  refine nE_icmp_ge (tgt := 72) dX3_shortenWays_27 (by decide) ⟨fun c1 => ?_, fun c1 => ?_⟩
  · have h := h.1 c1
    refine nE_iinc (v := x2 + 1) dX3_shortenWays_72 rfl rfl (by decide) rfl ?_
    refine nE_goto (tgt := 12) dX3_shortenWays_75 (by decide) ?_
    refine nE_weak 3 ?_
    exact h
  · have h := h.2 c1
    refine nE_aload_n dX3_shortenWays_30 rfl rfl ?_
    refine nE_getC fl_X3_23 (sP_0 ho) rfl dX3_shortenWays_31 ?_
    refine nE_iload_n dX3_shortenWays_34 rfl rfl ?_
    obtain ⟨g2, h⟩ := h
    refine nG_aald (j := x2.toNatClampNeg) (sP_8 ho) rfl dX3_shortenWays_35 ⟨g2, ?_⟩
    refine nE_iload_n dX3_shortenWays_36 rfl rfl ?_
    refine nE_aload_n dX3_shortenWays_37 rfl rfl ?_
    refine nE_getC fl_X3_23 (sP_0 ho) rfl dX3_shortenWays_38 ?_
    refine nE_iload_n dX3_shortenWays_41 rfl rfl ?_
    refine nG_aald (j := x2.toNatClampNeg) (sP_8 ho) rfl dX3_shortenWays_42 ⟨g2, ?_⟩
    refine nE_iload_n dX3_shortenWays_43 rfl rfl ?_
    obtain ⟨g3, h⟩ := h
    refine nG_iald (j := x3.toNatClampNeg) (sP_r8 ho g2) rfl dX3_shortenWays_44 ⟨g3, ?_⟩
    refine nE_aload_n dX3_shortenWays_45 rfl rfl ?_
    refine nE_getC fl_X3_23 (sP_0 ho) rfl dX3_shortenWays_46 ?_
    refine nE_iload_n dX3_shortenWays_49 rfl rfl ?_
    refine nG_aald (j := x2.toNatClampNeg) (sP_8 ho) rfl dX3_shortenWays_50 ⟨g2, ?_⟩
    refine nE_iload_n dX3_shortenWays_51 rfl rfl ?_
    obtain ⟨g4, h⟩ := h
    refine nG_iald (j := x1.toNatClampNeg) (sP_r8 ho g2) rfl dX3_shortenWays_52 ⟨g4, ?_⟩
    refine nE_aload_n dX3_shortenWays_53 rfl rfl ?_
    refine nE_getC fl_X3_23 (sP_0 ho) rfl dX3_shortenWays_54 ?_
    refine nE_iload_n dX3_shortenWays_57 rfl rfl ?_
    refine nG_aald (j := x1.toNatClampNeg) (sP_8 ho) rfl dX3_shortenWays_58 ⟨g4, ?_⟩
    refine nE_iload_n dX3_shortenWays_59 rfl rfl ?_
    refine nG_iald (j := x3.toNatClampNeg) (sP_r8 ho g4) rfl dX3_shortenWays_60 ⟨g3, ?_⟩
    refine nE_iadd dX3_shortenWays_61 ?_
    refine nE_mmin mm_X3_125 ⟨by decide, Nat.le_of_ble_eq_true rfl⟩ dX3_shortenWays_62 ?_
    refine nG_iast (j := x3.toNatClampNeg) (sP_r8 ho g2) rfl dX3_shortenWays_65 ⟨g3, ?_⟩
    refine nE_iinc (v := x3 + 1) dX3_shortenWays_66 rfl rfl (by decide) rfl ?_
    refine nE_goto (tgt := 22) dX3_shortenWays_69 (by decide) ?_
    exact h
set_option maxRecDepth 20000 in
theorem sg_X4_learn_0 {o : Nat} (ho : isL o) (x2 : Int32) {σ : nh_S} {Q : Option Value → nh_S → Prop} (h : nh_E kX4_learn 7 [some (.ref o), some (.ref 1), some (.int x2), some (.int 0)] [] (nh_si σ o 0 0) Q) : nh_E kX4_learn 0 [some (.ref o), some (.ref 1), some (.int x2), none] [] σ Q := by
  refine nE_aload_n dX4_learn_0 rfl rfl ?_
  refine nE_iconst (v := 0) dX4_learn_1 (by decide) ?_
  refine nE_putI fl_X4_18 (sL_0 ho) rfl ⟨rfl, rfl⟩ dX4_learn_2 ?_
  refine nE_iconst (v := 0) dX4_learn_5 (by decide) ?_
  refine nE_istore_n dX4_learn_6 rfl rfl (by decide) ?_
  exact h
set_option maxRecDepth 20000 in
theorem sg_X4_learn_7 {o : Nat} (ho : isL o) (x2 : Int32) (x3 : Int32) {σ : nh_S} {Q : Option Value → nh_S → Prop} (h : (600 ≤ x3 → (Q none σ)) ∧ (¬ (600 ≤ x3) → (nh_E kX6_goesOn 0 [some (.ref 1)] [] σ (nh_qi fun r3 τ2 => (r3 = 0 → (Q none τ2)) ∧ (¬ (r3 = 0) → (nh_E kX6_takesWord 0 [some (.ref 1), some (.ref 904), none, none] [] τ2 (nh_qi fun r7 τ6 => (r7 = 0 → (nh_E kX6_blameHere 0 [some (.ref 1)] [] τ6 (nh_qv fun τ10 => nh_E kX4_learn 7 [some (.ref o), some (.ref 1), some (.int x2), some (.int (x3 + 1))] [] τ10 Q))) ∧ (¬ (r7 = 0) → (nh_E kX4_learnWake 0 [some (.ref o), some (.ref 1), some (.int x2), none, none] [] τ6 (nh_qv fun τ13 => nh_E kX4_learn 7 [some (.ref o), some (.ref 1), some (.int x2), some (.int (x3 + 1))] [] τ13 Q)))))))))) : nh_E kX4_learn 7 [some (.ref o), some (.ref 1), some (.int x2), some (.int x3)] [] σ Q := by
  refine nE_iload_n dX4_learn_7 rfl rfl ?_
  refine nE_sipush (v := 600) dX4_learn_8 (by decide) ?_
  refine nE_icmp_ge (tgt := 49) dX4_learn_11 (by decide) ⟨fun c1 => ?_, fun c1 => ?_⟩
  · have h := h.1 c1
    exact nE_vret dX4_learn_49 rfl h
  · have h := h.2 c1
    refine nE_aload_n dX4_learn_14 rfl rfl ?_
    refine nE_callV (As := []) yf_X6_goesOn ⟨by decide, by decide⟩ rfl rfl sC_1 rfl vl_X4_22 dX4_learn_15 rfl rfl (Nat.le_of_ble_eq_true rfl) (Nat.le_of_ble_eq_true rfl) (nE_mono (fun z4 τ2 h => ?_) h)
    obtain ⟨r3, rfl, h⟩ := h
    refine nE_if_eq (tgt := 49) dX4_learn_18 (by decide) ⟨fun c5 => ?_, fun c5 => ?_⟩
    · have h := h.1 c5
      exact nE_vret dX4_learn_49 rfl h
    · have h := h.2 c5
      refine nE_aload_n dX4_learn_21 rfl rfl ?_
      refine nE_ldcS (j := 4) (tx := "wake") (by decide +kernel) dX4_learn_22 ?_
      refine nE_callV (As := [.ref 904]) yf_X6_takesWord ⟨by decide, by decide⟩ rfl rfl sC_1 rfl vl_X4_30 dX4_learn_24 rfl rfl (Nat.le_of_ble_eq_true rfl) (Nat.le_of_ble_eq_true rfl) (nE_mono (fun z8 τ6 h => ?_) h)
      obtain ⟨r7, rfl, h⟩ := h
      refine nE_if_eq (tgt := 39) dX4_learn_27 (by decide) ⟨fun c9 => ?_, fun c9 => ?_⟩
      · have h := h.1 c9
        refine nE_aload_n dX4_learn_39 rfl rfl ?_
        refine nE_callV (As := []) yf_X6_blameHere ⟨by decide, by decide⟩ rfl rfl sC_1 rfl vl_X4_38 dX4_learn_40 rfl rfl (Nat.le_of_ble_eq_true rfl) (Nat.le_of_ble_eq_true rfl) (nE_mono (fun z12 τ10 h => ?_) h)
        obtain ⟨rfl, h⟩ := h
        refine nE_iinc (v := x3 + 1) dX4_learn_43 rfl rfl (by decide) rfl ?_
        refine nE_goto (tgt := 7) dX4_learn_46 (by decide) ?_
        exact h
      · have h := h.2 c9
        refine nE_aload_n dX4_learn_30 rfl rfl ?_
        refine nE_aload_n dX4_learn_31 rfl rfl ?_
        refine nE_iload_n dX4_learn_32 rfl rfl ?_
        refine nE_callV (As := [.ref 1, .int x2]) yf_X4_learnWake ⟨by decide, by decide⟩ rfl rfl (sL_0 ho) rfl vl_X4_34 dX4_learn_33 rfl rfl (Nat.le_of_ble_eq_true rfl) (Nat.le_of_ble_eq_true rfl) (nE_mono (fun z15 τ13 h => ?_) h)
        obtain ⟨rfl, h⟩ := h
        refine nE_goto (tgt := 43) dX4_learn_36 (by decide) ?_
        refine nE_iinc (v := x3 + 1) dX4_learn_43 rfl rfl (by decide) rfl ?_
        refine nE_goto (tgt := 7) dX4_learn_46 (by decide) ?_
        exact h
set_option maxRecDepth 20000 in
theorem sg_X4_learnWake_0 {o : Nat} (ho : isL o) (x2 : Int32) {σ : nh_S} {Q : Option Value → nh_S → Prop} (h : (σ.1 o 0 < 20 → (nh_E kX6_takeNumber 0 [some (.ref 1), some (.int 0), some (.int (x2 - 1)), none, none] [] σ (nh_qi fun r3 τ2 => nh_E kX6_takeNumber 0 [some (.ref 1), some (.int 0), some (.int (x2 - 1)), none, none] [] τ2 (nh_qi fun r6 τ5 => (¬ (τ5.1 1 3 = 0) → (nh_E kX6_endClause 0 [some (.ref 1)] [] τ5 (nh_qv fun τ9 => (vp_in (τ9.1 o 0) 20) ∧ Q none (nh_si (nh_wa (nh_wa τ9 (o + 1) ((τ9.1 o 0).toNatClampNeg) r3) (o + 2) ((τ9.1 o 0).toNatClampNeg) r6) o 0 ((τ9.1 o 0) + 1))))) ∧ (τ5.1 1 3 = 0 → ((r3 = r6 → (nh_E kX6_blame 0 [some (.ref 1), some (.int 4), some (.int (τ5.1 1 2))] [] τ5 (nh_qv fun τ14 => nh_E kX6_endClause 0 [some (.ref 1)] [] τ14 (nh_qv fun τ17 => (vp_in (τ17.1 o 0) 20) ∧ Q none (nh_si (nh_wa (nh_wa τ17 (o + 1) ((τ17.1 o 0).toNatClampNeg) r3) (o + 2) ((τ17.1 o 0).toNatClampNeg) r6) o 0 ((τ17.1 o 0) + 1)))))) ∧ (¬ (r3 = r6) → (nh_E kX4_isWoken 0 [some (.ref o), some (.int r6), none] [] τ5 (nh_qi fun r22 τ21 => (r22 = 0 → (nh_E kX6_endClause 0 [some (.ref 1)] [] τ21 (nh_qv fun τ25 => (vp_in (τ25.1 o 0) 20) ∧ Q none (nh_si (nh_wa (nh_wa τ25 (o + 1) ((τ25.1 o 0).toNatClampNeg) r3) (o + 2) ((τ25.1 o 0).toNatClampNeg) r6) o 0 ((τ25.1 o 0) + 1))))) ∧ (¬ (r22 = 0) → (nh_E kX6_blame 0 [some (.ref 1), some (.int 4), some (.int (τ21.1 1 2))] [] τ21 (nh_qv fun τ29 => nh_E kX6_endClause 0 [some (.ref 1)] [] τ29 (nh_qv fun τ32 => (vp_in (τ32.1 o 0) 20) ∧ Q none (nh_si (nh_wa (nh_wa τ32 (o + 1) ((τ32.1 o 0).toNatClampNeg) r3) (o + 2) ((τ32.1 o 0).toNatClampNeg) r6) o 0 ((τ32.1 o 0) + 1))))))))))))))) ∧ (¬ (σ.1 o 0 < 20) → (nh_E kX6_blame 0 [some (.ref 1), some (.int 3), some (.int (σ.1 1 2))] [] σ (nh_qv fun τ36 => Q none τ36)))) : nh_E kX4_learnWake 0 [some (.ref o), some (.ref 1), some (.int x2), none, none] [] σ Q := by
  refine nE_aload_n dX4_learnWake_0 rfl rfl ?_
  refine nE_getI fl_X4_18 (sL_0 ho) rfl dX4_learnWake_1 ?_
  refine nE_bipush (v := 20) dX4_learnWake_4 (by decide) ?_
  refine nE_icmp_lt (tgt := 19) dX4_learnWake_6 (by decide) ⟨fun c1 => ?_, fun c1 => ?_⟩
  · have h := h.1 c1
    refine nE_aload_n dX4_learnWake_19 rfl rfl ?_
    refine nE_iconst (v := 0) dX4_learnWake_20 (by decide) ?_
    refine nE_iload_n dX4_learnWake_21 rfl rfl ?_
    refine nE_iconst (v := 1) dX4_learnWake_22 (by decide) ?_
    refine nE_isub dX4_learnWake_23 ?_
    refine nE_callV (As := [.int 0, .int (x2 - 1)]) yf_X6_takeNumber ⟨by decide, by decide⟩ rfl rfl sC_1 rfl vl_X4_48 dX4_learnWake_24 rfl rfl (Nat.le_of_ble_eq_true rfl) (Nat.le_of_ble_eq_true rfl) (nE_mono (fun z4 τ2 h => ?_) h)
    obtain ⟨r3, rfl, h⟩ := h
    refine nE_istore_n dX4_learnWake_27 rfl rfl (by decide) ?_
    refine nE_aload_n dX4_learnWake_28 rfl rfl ?_
    refine nE_iconst (v := 0) dX4_learnWake_29 (by decide) ?_
    refine nE_iload_n dX4_learnWake_30 rfl rfl ?_
    refine nE_iconst (v := 1) dX4_learnWake_31 (by decide) ?_
    refine nE_isub dX4_learnWake_32 ?_
    refine nE_callV (As := [.int 0, .int (x2 - 1)]) yf_X6_takeNumber ⟨by decide, by decide⟩ rfl rfl sC_1 rfl vl_X4_48 dX4_learnWake_33 rfl rfl (Nat.le_of_ble_eq_true rfl) (Nat.le_of_ble_eq_true rfl) (nE_mono (fun z7 τ5 h => ?_) h)
    obtain ⟨r6, rfl, h⟩ := h
    refine nE_istore dX4_learnWake_36 rfl (by decide) ?_
    refine nE_aload_n dX4_learnWake_38 rfl rfl ?_
    refine nE_callV (As := []) yf_X6_isSound ⟨by decide, by decide⟩ rfl rfl sC_1 rfl vl_X4_52 dX4_learnWake_39 rfl rfl (Nat.le_of_ble_eq_true rfl) (Nat.le_of_ble_eq_true rfl) (p_X6_isSound ?_)
    refine nE_ifb_eq (tgt := 69) dX4_learnWake_42 (by decide) ⟨fun c8 => ?_, fun c8 => ?_⟩
    · have h := h.1 c8
      refine nE_aload_n dX4_learnWake_69 rfl rfl ?_
      refine nE_callV (As := []) yf_X6_endClause ⟨by decide, by decide⟩ rfl rfl sC_1 rfl vl_X4_59 dX4_learnWake_70 rfl rfl (Nat.le_of_ble_eq_true rfl) (Nat.le_of_ble_eq_true rfl) (nE_mono (fun z11 τ9 h => ?_) h)
      obtain ⟨rfl, h⟩ := h
      refine nE_aload_n dX4_learnWake_73 rfl rfl ?_
      refine nE_getC fl_X4_9 (sL_0 ho) rfl dX4_learnWake_74 ?_
      refine nE_aload_n dX4_learnWake_77 rfl rfl ?_
      refine nE_getI fl_X4_18 (sL_0 ho) rfl dX4_learnWake_78 ?_
      refine nE_iload_n dX4_learnWake_81 rfl rfl ?_
      obtain ⟨g12, h⟩ := h
      refine nG_iast (j := (τ9.1 o 0).toNatClampNeg) (sL_1 ho) rfl dX4_learnWake_82 ⟨g12, ?_⟩
      refine nE_aload_n dX4_learnWake_83 rfl rfl ?_
      refine nE_getC fl_X4_15 (sL_0 ho) rfl dX4_learnWake_84 ?_
      refine nE_aload_n dX4_learnWake_87 rfl rfl ?_
      refine nE_getI fl_X4_18 (sL_0 ho) rfl dX4_learnWake_88 ?_
      refine nE_iload dX4_learnWake_91 rfl ?_
      refine nG_iast (j := (τ9.1 o 0).toNatClampNeg) (sL_2 ho) rfl dX4_learnWake_93 ⟨g12, ?_⟩
      refine nE_aload_n dX4_learnWake_94 rfl rfl ?_
      refine nE_dup dX4_learnWake_95 rfl ?_
      refine nE_getI fl_X4_18 (sL_0 ho) rfl dX4_learnWake_96 ?_
      refine nE_iconst (v := 1) dX4_learnWake_99 (by decide) ?_
      refine nE_iadd dX4_learnWake_100 ?_
      refine nE_putI fl_X4_18 (sL_0 ho) rfl ⟨rfl, rfl⟩ dX4_learnWake_101 ?_
      exact nE_vret dX4_learnWake_104 rfl h
    · have h := h.2 c8
      refine nE_iload_n dX4_learnWake_45 rfl rfl ?_
      refine nE_iload dX4_learnWake_46 rfl ?_
      refine nE_icmp_eq (tgt := 60) dX4_learnWake_48 (by decide) ⟨fun c13 => ?_, fun c13 => ?_⟩
      · have h := h.1 c13
        refine nE_aload_n dX4_learnWake_60 rfl rfl ?_
        refine nE_iconst (v := 4) dX4_learnWake_61 (by decide) ?_
        refine nE_aload_n dX4_learnWake_62 rfl rfl ?_
        refine nE_getI fl_X4_41 sC_1 rfl dX4_learnWake_63 ?_
        refine nE_callV (As := [.int 4, .int (τ5.1 1 2)]) yf_X6_blame ⟨by decide, by decide⟩ rfl rfl sC_1 rfl vl_X4_44 dX4_learnWake_66 rfl rfl (Nat.le_of_ble_eq_true rfl) (Nat.le_of_ble_eq_true rfl) (nE_mono (fun z16 τ14 h => ?_) h)
        obtain ⟨rfl, h⟩ := h
        refine nE_aload_n dX4_learnWake_69 rfl rfl ?_
        refine nE_callV (As := []) yf_X6_endClause ⟨by decide, by decide⟩ rfl rfl sC_1 rfl vl_X4_59 dX4_learnWake_70 rfl rfl (Nat.le_of_ble_eq_true rfl) (Nat.le_of_ble_eq_true rfl) (nE_mono (fun z19 τ17 h => ?_) h)
        obtain ⟨rfl, h⟩ := h
        refine nE_aload_n dX4_learnWake_73 rfl rfl ?_
        refine nE_getC fl_X4_9 (sL_0 ho) rfl dX4_learnWake_74 ?_
        refine nE_aload_n dX4_learnWake_77 rfl rfl ?_
        refine nE_getI fl_X4_18 (sL_0 ho) rfl dX4_learnWake_78 ?_
        refine nE_iload_n dX4_learnWake_81 rfl rfl ?_
        obtain ⟨g20, h⟩ := h
        refine nG_iast (j := (τ17.1 o 0).toNatClampNeg) (sL_1 ho) rfl dX4_learnWake_82 ⟨g20, ?_⟩
        refine nE_aload_n dX4_learnWake_83 rfl rfl ?_
        refine nE_getC fl_X4_15 (sL_0 ho) rfl dX4_learnWake_84 ?_
        refine nE_aload_n dX4_learnWake_87 rfl rfl ?_
        refine nE_getI fl_X4_18 (sL_0 ho) rfl dX4_learnWake_88 ?_
        refine nE_iload dX4_learnWake_91 rfl ?_
        refine nG_iast (j := (τ17.1 o 0).toNatClampNeg) (sL_2 ho) rfl dX4_learnWake_93 ⟨g20, ?_⟩
        refine nE_aload_n dX4_learnWake_94 rfl rfl ?_
        refine nE_dup dX4_learnWake_95 rfl ?_
        refine nE_getI fl_X4_18 (sL_0 ho) rfl dX4_learnWake_96 ?_
        refine nE_iconst (v := 1) dX4_learnWake_99 (by decide) ?_
        refine nE_iadd dX4_learnWake_100 ?_
        refine nE_putI fl_X4_18 (sL_0 ho) rfl ⟨rfl, rfl⟩ dX4_learnWake_101 ?_
        exact nE_vret dX4_learnWake_104 rfl h
      · have h := h.2 c13
        refine nE_aload_n dX4_learnWake_51 rfl rfl ?_
        refine nE_iload dX4_learnWake_52 rfl ?_
        refine nE_callV (As := [.int r6]) yf_X4_isWoken ⟨by decide, by decide⟩ rfl rfl (sL_0 ho) rfl vl_X4_55 dX4_learnWake_54 rfl rfl (Nat.le_of_ble_eq_true rfl) (Nat.le_of_ble_eq_true rfl) (nE_mono (fun z23 τ21 h => ?_) h)
        obtain ⟨r22, rfl, h⟩ := h
        refine nE_if_eq (tgt := 69) dX4_learnWake_57 (by decide) ⟨fun c24 => ?_, fun c24 => ?_⟩
        · have h := h.1 c24
          refine nE_aload_n dX4_learnWake_69 rfl rfl ?_
          refine nE_callV (As := []) yf_X6_endClause ⟨by decide, by decide⟩ rfl rfl sC_1 rfl vl_X4_59 dX4_learnWake_70 rfl rfl (Nat.le_of_ble_eq_true rfl) (Nat.le_of_ble_eq_true rfl) (nE_mono (fun z27 τ25 h => ?_) h)
          obtain ⟨rfl, h⟩ := h
          refine nE_aload_n dX4_learnWake_73 rfl rfl ?_
          refine nE_getC fl_X4_9 (sL_0 ho) rfl dX4_learnWake_74 ?_
          refine nE_aload_n dX4_learnWake_77 rfl rfl ?_
          refine nE_getI fl_X4_18 (sL_0 ho) rfl dX4_learnWake_78 ?_
          refine nE_iload_n dX4_learnWake_81 rfl rfl ?_
          obtain ⟨g28, h⟩ := h
          refine nG_iast (j := (τ25.1 o 0).toNatClampNeg) (sL_1 ho) rfl dX4_learnWake_82 ⟨g28, ?_⟩
          refine nE_aload_n dX4_learnWake_83 rfl rfl ?_
          refine nE_getC fl_X4_15 (sL_0 ho) rfl dX4_learnWake_84 ?_
          refine nE_aload_n dX4_learnWake_87 rfl rfl ?_
          refine nE_getI fl_X4_18 (sL_0 ho) rfl dX4_learnWake_88 ?_
          refine nE_iload dX4_learnWake_91 rfl ?_
          refine nG_iast (j := (τ25.1 o 0).toNatClampNeg) (sL_2 ho) rfl dX4_learnWake_93 ⟨g28, ?_⟩
          refine nE_aload_n dX4_learnWake_94 rfl rfl ?_
          refine nE_dup dX4_learnWake_95 rfl ?_
          refine nE_getI fl_X4_18 (sL_0 ho) rfl dX4_learnWake_96 ?_
          refine nE_iconst (v := 1) dX4_learnWake_99 (by decide) ?_
          refine nE_iadd dX4_learnWake_100 ?_
          refine nE_putI fl_X4_18 (sL_0 ho) rfl ⟨rfl, rfl⟩ dX4_learnWake_101 ?_
          exact nE_vret dX4_learnWake_104 rfl h
        · have h := h.2 c24
          refine nE_aload_n dX4_learnWake_60 rfl rfl ?_
          refine nE_iconst (v := 4) dX4_learnWake_61 (by decide) ?_
          refine nE_aload_n dX4_learnWake_62 rfl rfl ?_
          refine nE_getI fl_X4_41 sC_1 rfl dX4_learnWake_63 ?_
          refine nE_callV (As := [.int 4, .int (τ21.1 1 2)]) yf_X6_blame ⟨by decide, by decide⟩ rfl rfl sC_1 rfl vl_X4_44 dX4_learnWake_66 rfl rfl (Nat.le_of_ble_eq_true rfl) (Nat.le_of_ble_eq_true rfl) (nE_mono (fun z31 τ29 h => ?_) h)
          obtain ⟨rfl, h⟩ := h
          refine nE_aload_n dX4_learnWake_69 rfl rfl ?_
          refine nE_callV (As := []) yf_X6_endClause ⟨by decide, by decide⟩ rfl rfl sC_1 rfl vl_X4_59 dX4_learnWake_70 rfl rfl (Nat.le_of_ble_eq_true rfl) (Nat.le_of_ble_eq_true rfl) (nE_mono (fun z34 τ32 h => ?_) h)
          obtain ⟨rfl, h⟩ := h
          refine nE_aload_n dX4_learnWake_73 rfl rfl ?_
          refine nE_getC fl_X4_9 (sL_0 ho) rfl dX4_learnWake_74 ?_
          refine nE_aload_n dX4_learnWake_77 rfl rfl ?_
          refine nE_getI fl_X4_18 (sL_0 ho) rfl dX4_learnWake_78 ?_
          refine nE_iload_n dX4_learnWake_81 rfl rfl ?_
          obtain ⟨g35, h⟩ := h
          refine nG_iast (j := (τ32.1 o 0).toNatClampNeg) (sL_1 ho) rfl dX4_learnWake_82 ⟨g35, ?_⟩
          refine nE_aload_n dX4_learnWake_83 rfl rfl ?_
          refine nE_getC fl_X4_15 (sL_0 ho) rfl dX4_learnWake_84 ?_
          refine nE_aload_n dX4_learnWake_87 rfl rfl ?_
          refine nE_getI fl_X4_18 (sL_0 ho) rfl dX4_learnWake_88 ?_
          refine nE_iload dX4_learnWake_91 rfl ?_
          refine nG_iast (j := (τ32.1 o 0).toNatClampNeg) (sL_2 ho) rfl dX4_learnWake_93 ⟨g35, ?_⟩
          refine nE_aload_n dX4_learnWake_94 rfl rfl ?_
          refine nE_dup dX4_learnWake_95 rfl ?_
          refine nE_getI fl_X4_18 (sL_0 ho) rfl dX4_learnWake_96 ?_
          refine nE_iconst (v := 1) dX4_learnWake_99 (by decide) ?_
          refine nE_iadd dX4_learnWake_100 ?_
          refine nE_putI fl_X4_18 (sL_0 ho) rfl ⟨rfl, rfl⟩ dX4_learnWake_101 ?_
          exact nE_vret dX4_learnWake_104 rfl h
  · have h := h.2 c1
    refine nE_aload_n dX4_learnWake_9 rfl rfl ?_
    refine nE_iconst (v := 3) dX4_learnWake_10 (by decide) ?_
    refine nE_aload_n dX4_learnWake_11 rfl rfl ?_
    refine nE_getI fl_X4_41 sC_1 rfl dX4_learnWake_12 ?_
    refine nE_callV (As := [.int 3, .int (σ.1 1 2)]) yf_X6_blame ⟨by decide, by decide⟩ rfl rfl sC_1 rfl vl_X4_44 dX4_learnWake_15 rfl rfl (Nat.le_of_ble_eq_true rfl) (Nat.le_of_ble_eq_true rfl) (nE_mono (fun z38 τ36 h => ?_) h)
    obtain ⟨rfl, h⟩ := h
    exact nE_vret dX4_learnWake_18 rfl h
set_option maxRecDepth 20000 in
theorem sg_X4_isWoken_0 {o : Nat} (ho : isL o) (x1 : Int32) {σ : nh_S} {Q : Option Value → nh_S → Prop} (h : nh_E kX4_isWoken 2 [some (.ref o), some (.int x1), some (.int 0)] [] σ Q) : nh_E kX4_isWoken 0 [some (.ref o), some (.int x1), none] [] σ Q := by
  refine nE_iconst (v := 0) dX4_isWoken_0 (by decide) ?_
  refine nE_istore_n dX4_isWoken_1 rfl rfl (by decide) ?_
  exact h
set_option maxRecDepth 20000 in
theorem sg_X4_isWoken_2 {o : Nat} (ho : isL o) (x1 : Int32) (x2 : Int32) {σ : nh_S} {Q : Option Value → nh_S → Prop} (h : (σ.1 o 0 ≤ x2 → (Q (some (.int 0)) σ)) ∧ (¬ (σ.1 o 0 ≤ x2) → ((vp_in x2 20) ∧ (¬ (σ.2.1 (o + 2) x2.toNatClampNeg = x1) → (nh_E kX4_isWoken 2 [some (.ref o), some (.int x1), some (.int (x2 + 1))] [] σ Q)) ∧ (σ.2.1 (o + 2) x2.toNatClampNeg = x1 → (Q (some (.int 1)) σ))))) : nh_E kX4_isWoken 2 [some (.ref o), some (.int x1), some (.int x2)] [] σ Q := by
  refine nE_iload_n dX4_isWoken_2 rfl rfl ?_
  refine nE_aload_n dX4_isWoken_3 rfl rfl ?_
  refine nE_getI fl_X4_18 (sL_0 ho) rfl dX4_isWoken_4 ?_
  refine nE_icmp_ge (tgt := 28) dX4_isWoken_7 (by decide) ⟨fun c1 => ?_, fun c1 => ?_⟩
  · have h := h.1 c1
    refine nE_iconst (v := 0) dX4_isWoken_28 (by decide) ?_
    exact nE_zret (ty := .boolean) dX4_isWoken_29 rfl (by decide) h
  · have h := h.2 c1
    refine nE_aload_n dX4_isWoken_10 rfl rfl ?_
    refine nE_getC fl_X4_15 (sL_0 ho) rfl dX4_isWoken_11 ?_
    refine nE_iload_n dX4_isWoken_14 rfl rfl ?_
    obtain ⟨g2, h⟩ := h
    refine nG_iald (j := x2.toNatClampNeg) (sL_2 ho) rfl dX4_isWoken_15 ⟨g2, ?_⟩
    refine nE_iload_n dX4_isWoken_16 rfl rfl ?_
    refine nE_icmp_ne (tgt := 22) dX4_isWoken_17 (by decide) ⟨fun c3 => ?_, fun c3 => ?_⟩
    · have h := h.1 c3
      refine nE_iinc (v := x2 + 1) dX4_isWoken_22 rfl rfl (by decide) rfl ?_
      refine nE_goto (tgt := 2) dX4_isWoken_25 (by decide) ?_
      exact h
    · have h := h.2 c3
      refine nE_iconst (v := 1) dX4_isWoken_20 (by decide) ?_
      exact nE_zret (ty := .boolean) dX4_isWoken_21 rfl (by decide) h
set_option maxRecDepth 20000 in
theorem sg_X5_gather_0 {o : Nat} (ho : isG o) {o1 : Nat} (ho1 : isP o1) {a3 n3 : Nat} (ha3 : shC[a3]? = some (.inl (.int, n3, none))) (x4 : Int32) {σ : nh_S} {Q : Option Value → nh_S → Prop} (h : nh_E kX5_gather 3 [some (.ref o), some (.ref o1), some (.ref 12), some (.ref a3), some (.int x4), some (.int 0)] [] σ Q) : nh_E kX5_gather 0 [some (.ref o), some (.ref o1), some (.ref 12), some (.ref a3), some (.int x4), none] [] σ Q := by
  refine nE_iconst (v := 0) dX5_gather_0 (by decide) ?_
  refine nE_istore dX5_gather_1 rfl (by decide) ?_
  exact h
set_option maxRecDepth 20000 in
theorem sg_X5_gather_3 {o : Nat} (ho : isG o) {o1 : Nat} (ho1 : isP o1) {a3 n3 : Nat} (ha3 : shC[a3]? = some (.inl (.int, n3, none))) (x4 : Int32) (x5 : Int32) {σ : nh_S} {Q : Option Value → nh_S → Prop} (h : (σ.1 o1 1 ≤ x5 → (Q none σ)) ∧ (¬ (σ.1 o1 1 ≤ x5) → ((vp_in x5 n3) ∧ nh_E kX7_arrival 0 [some (.ref 12), some (.ref o1), some (.int (σ.2.1 a3 x5.toNatClampNeg)), some (.int x4)] [] σ (nh_qi fun r4 τ3 => (vp_in x5 12) ∧ nh_E kX5_gather 3 [some (.ref o), some (.ref o1), some (.ref 12), some (.ref a3), some (.int x4), some (.int (x5 + 1))] [] (nh_wa τ3 (o + 1) x5.toNatClampNeg r4) Q)))) : nh_E kX5_gather 3 [some (.ref o), some (.ref o1), some (.ref 12), some (.ref a3), some (.int x4), some (.int x5)] [] σ Q := by
  refine nE_iload dX5_gather_3 rfl ?_
  refine nE_aload_n dX5_gather_5 rfl rfl ?_
  refine nE_getI fl_X5_25 (sP_0 ho1) rfl dX5_gather_6 ?_
  refine nE_icmp_ge (tgt := 36) dX5_gather_9 (by decide) ⟨fun c1 => ?_, fun c1 => ?_⟩
  · have h := h.1 c1
    exact nE_vret dX5_gather_36 rfl h
  · have h := h.2 c1
    refine nE_aload_n dX5_gather_12 rfl rfl ?_
    refine nE_getC fl_X5_9 (sG_0 ho) rfl dX5_gather_13 ?_
    refine nE_iload dX5_gather_16 rfl ?_
    refine nE_aload_n dX5_gather_18 rfl rfl ?_
    refine nE_aload_n dX5_gather_19 rfl rfl ?_
    refine nE_aload_n dX5_gather_20 rfl rfl ?_
    refine nE_iload dX5_gather_21 rfl ?_
    obtain ⟨g2, h⟩ := h
    refine nG_iald (j := x5.toNatClampNeg) ha3 rfl dX5_gather_23 ⟨g2, ?_⟩
    refine nE_iload dX5_gather_24 rfl ?_
    refine nE_callV (As := [.ref o1, .int (σ.2.1 a3 x5.toNatClampNeg), .int x4]) yf_X7_arrival ⟨by decide, by decide⟩ rfl rfl sC_12 rfl vl_X5_30 dX5_gather_26 rfl rfl (Nat.le_of_ble_eq_true rfl) (Nat.le_of_ble_eq_true rfl) (nE_mono (fun z5 τ3 h => ?_) h)
    obtain ⟨r4, rfl, h⟩ := h
    obtain ⟨g6, h⟩ := h
    refine nG_iast (j := x5.toNatClampNeg) (sG_1 ho) rfl dX5_gather_29 ⟨g6, ?_⟩
    refine nE_iinc (v := x5 + 1) dX5_gather_30 rfl rfl (by decide) rfl ?_
    refine nE_goto (tgt := 3) dX5_gather_33 (by decide) ?_
    exact h
set_option maxRecDepth 20000 in
theorem sg_X5_countNever_0 {o : Nat} (ho : isG o) (x1 : Int32) {σ : nh_S} {Q : Option Value → nh_S → Prop} (h : nh_E kX5_countNever 2 [some (.ref o), some (.int x1), some (.int 0)] [] σ Q) : nh_E kX5_countNever 0 [some (.ref o), some (.int x1), none] [] σ Q := by
  refine nE_iconst (v := 0) dX5_countNever_0 (by decide) ?_
  refine nE_istore_n dX5_countNever_1 rfl rfl (by decide) ?_
  exact h
set_option maxRecDepth 20000 in
theorem sg_X5_countNever_2 {o : Nat} (ho : isG o) (x1 : Int32) (x2 : Int32) {σ : nh_S} {Q : Option Value → nh_S → Prop} (h : (x1 ≤ x2 → (Q none σ)) ∧ (¬ (x1 ≤ x2) → ((vp_in x2 12) ∧ nh_E kX5_countNever 2 [some (.ref o), some (.int x1), some (.int (x2 + 1))] [] (nh_wa σ (o + 1) x2.toNatClampNeg (if σ.2.1 (o + 1) x2.toNatClampNeg = (-1) then 500 else σ.2.1 (o + 1) x2.toNatClampNeg)) Q))) : nh_E kX5_countNever 2 [some (.ref o), some (.int x1), some (.int x2)] [] σ Q := by
  refine nE_iload_n dX5_countNever_2 rfl rfl ?_
  refine nE_iload_n dX5_countNever_3 rfl rfl ?_
  refine nE_icmp_ge (tgt := 28) dX5_countNever_4 (by decide) ⟨fun c1 => ?_, fun c1 => ?_⟩
  · have h := h.1 c1
    exact nE_vret dX5_countNever_28 rfl h
  · have h := h.2 c1
    refine nE_aload_n dX5_countNever_7 rfl rfl ?_
    refine nE_getC fl_X5_9 (sG_0 ho) rfl dX5_countNever_8 ?_
    refine nE_iload_n dX5_countNever_11 rfl rfl ?_
    refine nE_aload_n dX5_countNever_12 rfl rfl ?_
    refine nE_getC fl_X5_9 (sG_0 ho) rfl dX5_countNever_13 ?_
    refine nE_iload_n dX5_countNever_16 rfl rfl ?_
    obtain ⟨g2, h⟩ := h
    refine nG_iald (j := x2.toNatClampNeg) (sG_1 ho) rfl dX5_countNever_17 ⟨g2, ?_⟩
    refine nE_callN (As := [.int (σ.2.1 (o + 1) x2.toNatClampNeg)]) yf_X8_counted ⟨by decide, by decide⟩ rfl nl_X5_36 dX5_countNever_18 rfl rfl (Nat.le_of_ble_eq_true rfl) (Nat.le_of_ble_eq_true rfl) (p_X8_counted _ ?_)
    refine nG_iast (j := x2.toNatClampNeg) (sG_1 ho) rfl dX5_countNever_21 ⟨g2, ?_⟩
    refine nE_iinc (v := x2 + 1) dX5_countNever_22 rfl rfl (by decide) rfl ?_
    refine nE_goto (tgt := 2) dX5_countNever_25 (by decide) ?_
    exact h
set_option maxRecDepth 20000 in
theorem sg_X5_laterThan_0 {o : Nat} (ho : isG o) (x1 : Int32) (x2 : Int32) {σ : nh_S} {Q : Option Value → nh_S → Prop} (h : nh_E kX5_laterThan 5 [some (.ref o), some (.int x1), some (.int x2), some (.int 0), some (.int 0)] [] σ Q) : nh_E kX5_laterThan 0 [some (.ref o), some (.int x1), some (.int x2), none, none] [] σ Q := by
  refine nE_iconst (v := 0) dX5_laterThan_0 (by decide) ?_
  refine nE_istore_n dX5_laterThan_1 rfl rfl (by decide) ?_
  refine nE_iconst (v := 0) dX5_laterThan_2 (by decide) ?_
  refine nE_istore dX5_laterThan_3 rfl (by decide) ?_
  exact h
set_option maxRecDepth 20000 in
theorem sg_X5_laterThan_5 {o : Nat} (ho : isG o) (x1 : Int32) (x2 : Int32) (x3 : Int32) (x4 : Int32) {σ : nh_S} {Q : Option Value → nh_S → Prop} (h : (x2 ≤ x4 → (Q (some (.int x3)) σ)) ∧ (¬ (x2 ≤ x4) → ((x1 = (-1) → (nh_E kX5_laterThan 5 [some (.ref o), some (.int x1), some (.int x2), some (.int x3), some (.int (x4 + 1))] [] σ Q)) ∧ (¬ (x1 = (-1)) → ((vp_in x4 12) ∧ (σ.2.1 (o + 1) x4.toNatClampNeg = (-1) → (nh_E kX5_laterThan 5 [some (.ref o), some (.int x1), some (.int x2), some (.int (x3 ||| (1 <<< (x4 &&& 31)))), some (.int (x4 + 1))] [] σ Q)) ∧ (¬ (σ.2.1 (o + 1) x4.toNatClampNeg = (-1)) → ((σ.2.1 (o + 1) x4.toNatClampNeg ≤ x1 → (nh_E kX5_laterThan 5 [some (.ref o), some (.int x1), some (.int x2), some (.int x3), some (.int (x4 + 1))] [] σ Q)) ∧ (¬ (σ.2.1 (o + 1) x4.toNatClampNeg ≤ x1) → (nh_E kX5_laterThan 5 [some (.ref o), some (.int x1), some (.int x2), some (.int (x3 ||| (1 <<< (x4 &&& 31)))), some (.int (x4 + 1))] [] σ Q))))))))) : nh_E kX5_laterThan 5 [some (.ref o), some (.int x1), some (.int x2), some (.int x3), some (.int x4)] [] σ Q := by
  refine nE_iload dX5_laterThan_5 rfl ?_
  refine nE_iload_n dX5_laterThan_7 rfl rfl ?_
  refine nE_icmp_ge (tgt := 51) dX5_laterThan_8 (by decide) ⟨fun c1 => ?_, fun c1 => ?_⟩
  · have h := h.1 c1
    refine nE_iload_n dX5_laterThan_51 rfl rfl ?_
    exact nE_iret dX5_laterThan_52 rfl h
  · have h := h.2 c1
    refine nE_iload_n dX5_laterThan_11 rfl rfl ?_
    refine nE_iconst (v := (-1)) dX5_laterThan_12 (by decide) ?_
    refine nE_icmp_eq (tgt := 45) dX5_laterThan_13 (by decide) ⟨fun c2 => ?_, fun c2 => ?_⟩
    · have h := h.1 c2
      refine nE_iinc (v := x4 + 1) dX5_laterThan_45 rfl rfl (by decide) rfl ?_
      refine nE_goto (tgt := 5) dX5_laterThan_48 (by decide) ?_
      exact h
    · have h := h.2 c2
      refine nE_aload_n dX5_laterThan_16 rfl rfl ?_
      refine nE_getC fl_X5_9 (sG_0 ho) rfl dX5_laterThan_17 ?_
      refine nE_iload dX5_laterThan_20 rfl ?_
      obtain ⟨g3, h⟩ := h
      refine nG_iald (j := x4.toNatClampNeg) (sG_1 ho) rfl dX5_laterThan_22 ⟨g3, ?_⟩
      refine nE_iconst (v := (-1)) dX5_laterThan_23 (by decide) ?_
      refine nE_icmp_eq (tgt := 38) dX5_laterThan_24 (by decide) ⟨fun c4 => ?_, fun c4 => ?_⟩
      · have h := h.1 c4
        refine nE_iload_n dX5_laterThan_38 rfl rfl ?_
        refine nE_iconst (v := 1) dX5_laterThan_39 (by decide) ?_
        refine nE_iload dX5_laterThan_40 rfl ?_
        refine nE_ishl dX5_laterThan_42 ?_
        refine nE_ior dX5_laterThan_43 ?_
        refine nE_istore_n dX5_laterThan_44 rfl rfl (by decide) ?_
        refine nE_iinc (v := x4 + 1) dX5_laterThan_45 rfl rfl (by decide) rfl ?_
        refine nE_goto (tgt := 5) dX5_laterThan_48 (by decide) ?_
        exact h
      · have h := h.2 c4
        refine nE_iload_n dX5_laterThan_27 rfl rfl ?_
        refine nE_aload_n dX5_laterThan_28 rfl rfl ?_
        refine nE_getC fl_X5_9 (sG_0 ho) rfl dX5_laterThan_29 ?_
        refine nE_iload dX5_laterThan_32 rfl ?_
        refine nG_iald (j := x4.toNatClampNeg) (sG_1 ho) rfl dX5_laterThan_34 ⟨g3, ?_⟩
        refine nE_icmp_ge (tgt := 45) dX5_laterThan_35 (by decide) ⟨fun c5 => ?_, fun c5 => ?_⟩
        · have h := h.1 c5
          refine nE_iinc (v := x4 + 1) dX5_laterThan_45 rfl rfl (by decide) rfl ?_
          refine nE_goto (tgt := 5) dX5_laterThan_48 (by decide) ?_
          exact h
        · have h := h.2 c5
          refine nE_iload_n dX5_laterThan_38 rfl rfl ?_
          refine nE_iconst (v := 1) dX5_laterThan_39 (by decide) ?_
          refine nE_iload dX5_laterThan_40 rfl ?_
          refine nE_ishl dX5_laterThan_42 ?_
          refine nE_ior dX5_laterThan_43 ?_
          refine nE_istore_n dX5_laterThan_44 rfl rfl (by decide) ?_
          refine nE_iinc (v := x4 + 1) dX5_laterThan_45 rfl rfl (by decide) rfl ?_
          refine nE_goto (tgt := 5) dX5_laterThan_48 (by decide) ?_
          exact h
set_option maxRecDepth 20000 in
theorem sg_X5_run_0 {o : Nat} (ho : isG o) {o1 : Nat} (ho1 : isP o1) (x2 : Int32) {σ : nh_S} {Q : Option Value → nh_S → Prop} (h : nh_E kX5_run 12 [some (.ref o), some (.ref o1), some (.int x2), some (.int 0)] [] (nh_si (nh_si σ o 2 0) o 3 (-1)) Q) : nh_E kX5_run 0 [some (.ref o), some (.ref o1), some (.int x2), none] [] σ Q := by
  refine nE_aload_n dX5_run_0 rfl rfl ?_
  refine nE_iconst (v := 0) dX5_run_1 (by decide) ?_
  refine nE_putI fl_X5_40 (sG_0 ho) rfl ⟨rfl, rfl⟩ dX5_run_2 ?_
  refine nE_aload_n dX5_run_5 rfl rfl ?_
  refine nE_iconst (v := (-1)) dX5_run_6 (by decide) ?_
  refine nE_putI fl_X5_18 (sG_0 ho) rfl ⟨rfl, rfl⟩ dX5_run_7 ?_
  refine nE_iconst (v := 0) dX5_run_10 (by decide) ?_
  refine nE_istore_n dX5_run_11 rfl rfl (by decide) ?_
  exact h
set_option maxRecDepth 20000 in
theorem sg_X5_run_12 {o : Nat} (ho : isG o) {o1 : Nat} (ho1 : isP o1) (x2 : Int32) (x3 : Int32) {σ : nh_S} {Q : Option Value → nh_S → Prop} (h : (σ.1 o1 1 ≤ x3 → (nh_E kX5_putAll 0 [some (.ref o), some (.ref o1), none, none, none] [] σ (nh_qi fun r3 τ2 => Q (some (.int r3)) τ2))) ∧ (¬ (σ.1 o1 1 ≤ x3) → ((¬ (nh_hs x2 x3) → (nh_E kX5_run 12 [some (.ref o), some (.ref o1), some (.int x2), some (.int (x3 + 1))] [] σ Q)) ∧ (nh_hs x2 x3 → ((vp_in x3 12) ∧ (¬ (σ.2.1 (o + 1) x3.toNatClampNeg = (-1)) → (nh_E kX5_makeReady 0 [some (.ref o), some (.ref o1), some (.int x3), none, none] [] σ (nh_qv fun τ8 => nh_E kX5_queueUp 0 [some (.ref o), some (.int x3), none] [] τ8 (nh_qv fun τ11 => nh_E kX5_run 12 [some (.ref o), some (.ref o1), some (.int x2), some (.int (x3 + 1))] [] τ11 Q)))) ∧ (σ.2.1 (o + 1) x3.toNatClampNeg = (-1) → (Q (some (.int (-1))) σ))))))) : nh_E kX5_run 12 [some (.ref o), some (.ref o1), some (.int x2), some (.int x3)] [] σ Q := by
  refine nE_iload_n dX5_run_12 rfl rfl ?_
  refine nE_aload_n dX5_run_13 rfl rfl ?_
  refine nE_getI fl_X5_25 (sP_0 ho1) rfl dX5_run_14 ?_
  refine nE_icmp_ge (tgt := 57) dX5_run_17 (by decide) ⟨fun c1 => ?_, fun c1 => ?_⟩
  · have h := h.1 c1
    refine nE_aload_n dX5_run_57 rfl rfl ?_
    refine nE_aload_n dX5_run_58 rfl rfl ?_
    refine nE_callV (As := [.ref o1]) yf_X5_putAll ⟨by decide, by decide⟩ rfl rfl (sG_0 ho) rfl vl_X5_55 dX5_run_59 rfl rfl (Nat.le_of_ble_eq_true rfl) (Nat.le_of_ble_eq_true rfl) (nE_mono (fun z4 τ2 h => ?_) h)
    obtain ⟨r3, rfl, h⟩ := h
    exact nE_iret dX5_run_62 rfl h
  · have h := h.2 c1
    refine nE_iload_n dX5_run_20 rfl rfl ?_
    refine nE_iload_n dX5_run_21 rfl rfl ?_
    refine nE_callN (As := [.int x2, .int x3]) yf_X8_has ⟨by decide, by decide⟩ rfl nl_X5_43 dX5_run_22 rfl rfl (Nat.le_of_ble_eq_true rfl) (Nat.le_of_ble_eq_true rfl) (p_X8_has _ _ ?_)
    refine nE_ifb_eq (tgt := 51) dX5_run_25 (by decide) ⟨fun c5 => ?_, fun c5 => ?_⟩
    · have h := h.1 c5
      refine nE_iinc (v := x3 + 1) dX5_run_51 rfl rfl (by decide) rfl ?_
      refine nE_goto (tgt := 12) dX5_run_54 (by decide) ?_
      exact h
    · have h := h.2 c5
      refine nE_aload_n dX5_run_28 rfl rfl ?_
      refine nE_getC fl_X5_9 (sG_0 ho) rfl dX5_run_29 ?_
      refine nE_iload_n dX5_run_32 rfl rfl ?_
      obtain ⟨g6, h⟩ := h
      refine nG_iald (j := x3.toNatClampNeg) (sG_1 ho) rfl dX5_run_33 ⟨g6, ?_⟩
      refine nE_iconst (v := (-1)) dX5_run_34 (by decide) ?_
      refine nE_icmp_ne (tgt := 40) dX5_run_35 (by decide) ⟨fun c7 => ?_, fun c7 => ?_⟩
      · have h := h.1 c7
        refine nE_aload_n dX5_run_40 rfl rfl ?_
        refine nE_aload_n dX5_run_41 rfl rfl ?_
        refine nE_iload_n dX5_run_42 rfl rfl ?_
        refine nE_callV (As := [.ref o1, .int x3]) yf_X5_makeReady ⟨by decide, by decide⟩ rfl rfl (sG_0 ho) rfl vl_X5_47 dX5_run_43 rfl rfl (Nat.le_of_ble_eq_true rfl) (Nat.le_of_ble_eq_true rfl) (nE_mono (fun z10 τ8 h => ?_) h)
        obtain ⟨rfl, h⟩ := h
        refine nE_aload_n dX5_run_46 rfl rfl ?_
        refine nE_iload_n dX5_run_47 rfl rfl ?_
        refine nE_callV (As := [.int x3]) yf_X5_queueUp ⟨by decide, by decide⟩ rfl rfl (sG_0 ho) rfl vl_X5_51 dX5_run_48 rfl rfl (Nat.le_of_ble_eq_true rfl) (Nat.le_of_ble_eq_true rfl) (nE_mono (fun z13 τ11 h => ?_) h)
        obtain ⟨rfl, h⟩ := h
        refine nE_iinc (v := x3 + 1) dX5_run_51 rfl rfl (by decide) rfl ?_
        refine nE_goto (tgt := 12) dX5_run_54 (by decide) ?_
        exact h
      · have h := h.2 c7
        refine nE_iconst (v := (-1)) dX5_run_38 (by decide) ?_
        exact nE_iret dX5_run_39 rfl h
set_option maxRecDepth 20000 in
theorem sg_X5_makeReady_0 {o : Nat} (ho : isG o) {o1 : Nat} (ho1 : isP o1) (x2 : Int32) {σ : nh_S} {Q : Option Value → nh_S → Prop} (h : (vp_in x2 12) ∧ nh_E kX5_makeReady 10 [some (.ref o), some (.ref o1), some (.int x2), some (.int (σ.2.1 (o + 1) x2.toNatClampNeg)), some (.int 0)] [] σ Q) : nh_E kX5_makeReady 0 [some (.ref o), some (.ref o1), some (.int x2), none, none] [] σ Q := by
  refine nE_aload_n dX5_makeReady_0 rfl rfl ?_
  refine nE_getC fl_X5_9 (sG_0 ho) rfl dX5_makeReady_1 ?_
  refine nE_iload_n dX5_makeReady_4 rfl rfl ?_
  obtain ⟨g1, h⟩ := h
  refine nG_iald (j := x2.toNatClampNeg) (sG_1 ho) rfl dX5_makeReady_5 ⟨g1, ?_⟩
  refine nE_istore_n dX5_makeReady_6 rfl rfl (by decide) ?_
  refine nE_iconst (v := 0) dX5_makeReady_7 (by decide) ?_
  refine nE_istore dX5_makeReady_8 rfl (by decide) ?_
  exact h
set_option maxRecDepth 20000 in
theorem sg_X5_makeReady_10 {o : Nat} (ho : isG o) {o1 : Nat} (ho1 : isP o1) (x2 : Int32) (x3 : Int32) (x4 : Int32) {σ : nh_S} {Q : Option Value → nh_S → Prop} (h : (x2 ≤ x4 → ((vp_in x2 12) ∧ Q none (nh_wa σ (o + 3) x2.toNatClampNeg x3))) ∧ (¬ (x2 ≤ x4) → ((vp_in x2 12) ∧ (¬ (nh_hs (σ.2.1 (o1 + 21) x2.toNatClampNeg) x4) → (nh_E kX5_makeReady 10 [some (.ref o), some (.ref o1), some (.int x2), some (.int x3), some (.int (x4 + 1))] [] σ Q)) ∧ (nh_hs (σ.2.1 (o1 + 21) x2.toNatClampNeg) x4 → ((vp_in x4 12) ∧ nh_E kX5_makeReady 10 [some (.ref o), some (.ref o1), some (.int x2), some (.int (if x3 < ((σ.2.1 (o + 3) x4.toNatClampNeg) + (σ.2.1 (o1 + 19) x4.toNatClampNeg)) then ((σ.2.1 (o + 3) x4.toNatClampNeg) + (σ.2.1 (o1 + 19) x4.toNatClampNeg)) else x3)), some (.int (x4 + 1))] [] σ Q))))) : nh_E kX5_makeReady 10 [some (.ref o), some (.ref o1), some (.int x2), some (.int x3), some (.int x4)] [] σ Q := by
  refine nE_iload dX5_makeReady_10 rfl ?_
  refine nE_iload_n dX5_makeReady_12 rfl rfl ?_
  refine nE_icmp_ge (tgt := 56) dX5_makeReady_13 (by decide) ⟨fun c1 => ?_, fun c1 => ?_⟩
  · have h := h.1 c1
    refine nE_aload_n dX5_makeReady_56 rfl rfl ?_
    refine nE_getC fl_X5_22 (sG_0 ho) rfl dX5_makeReady_57 ?_
    refine nE_iload_n dX5_makeReady_60 rfl rfl ?_
    refine nE_iload_n dX5_makeReady_61 rfl rfl ?_
    obtain ⟨g2, h⟩ := h
    refine nG_iast (j := x2.toNatClampNeg) (sG_3 ho) rfl dX5_makeReady_62 ⟨g2, ?_⟩
    exact nE_vret dX5_makeReady_63 rfl h
  · have h := h.2 c1
    refine nE_aload_n dX5_makeReady_16 rfl rfl ?_
    refine nE_getC fl_X5_59 (sP_0 ho1) rfl dX5_makeReady_17 ?_
    refine nE_iload_n dX5_makeReady_20 rfl rfl ?_
    obtain ⟨g3, h⟩ := h
    refine nG_iald (j := x2.toNatClampNeg) (sP_21 ho1) rfl dX5_makeReady_21 ⟨g3, ?_⟩
    refine nE_iload dX5_makeReady_22 rfl ?_
    refine nE_callN (As := [.int (σ.2.1 (o1 + 21) x2.toNatClampNeg), .int x4]) yf_X8_has ⟨by decide, by decide⟩ rfl nl_X5_43 dX5_makeReady_24 rfl rfl (Nat.le_of_ble_eq_true rfl) (Nat.le_of_ble_eq_true rfl) (p_X8_has _ _ ?_)
    refine nE_ifb_eq (tgt := 50) dX5_makeReady_27 (by decide) ⟨fun c4 => ?_, fun c4 => ?_⟩
    · have h := h.1 c4
      refine nE_iinc (v := x4 + 1) dX5_makeReady_50 rfl rfl (by decide) rfl ?_
      refine nE_goto (tgt := 10) dX5_makeReady_53 (by decide) ?_
      exact h
    · have h := h.2 c4
      refine nE_iload_n dX5_makeReady_30 rfl rfl ?_
      refine nE_aload_n dX5_makeReady_31 rfl rfl ?_
      refine nE_getC fl_X5_22 (sG_0 ho) rfl dX5_makeReady_32 ?_
      refine nE_iload dX5_makeReady_35 rfl ?_
      obtain ⟨g5, h⟩ := h
      refine nG_iald (j := x4.toNatClampNeg) (sG_3 ho) rfl dX5_makeReady_37 ⟨g5, ?_⟩
      refine nE_aload_n dX5_makeReady_38 rfl rfl ?_
      refine nE_getC fl_X5_62 (sP_0 ho1) rfl dX5_makeReady_39 ?_
      refine nE_iload dX5_makeReady_42 rfl ?_
      refine nG_iald (j := x4.toNatClampNeg) (sP_19 ho1) rfl dX5_makeReady_44 ⟨g5, ?_⟩
      refine nE_iadd dX5_makeReady_45 ?_
      refine nE_mmax mm_X5_65 ⟨by decide, Nat.le_of_ble_eq_true rfl⟩ dX5_makeReady_46 ?_
      refine nE_istore_n dX5_makeReady_49 rfl rfl (by decide) ?_
      refine nE_iinc (v := x4 + 1) dX5_makeReady_50 rfl rfl (by decide) rfl ?_
      refine nE_goto (tgt := 10) dX5_makeReady_53 (by decide) ?_
      exact h
set_option maxRecDepth 20000 in
theorem sg_X5_queueUp_0 {o : Nat} (ho : isG o) (x1 : Int32) {σ : nh_S} {Q : Option Value → nh_S → Prop} (h : (σ.1 o 2 < 12 → (nh_E kX5_queueUp 15 [some (.ref o), some (.int x1), some (.int (σ.1 o 2))] [] σ Q)) ∧ (¬ (σ.1 o 2 < 12) → (Q none σ))) : nh_E kX5_queueUp 0 [some (.ref o), some (.int x1), none] [] σ Q := by
  refine nE_aload_n dX5_queueUp_0 rfl rfl ?_
  refine nE_getI fl_X5_40 (sG_0 ho) rfl dX5_queueUp_1 ?_
  refine nE_bipush (v := 12) dX5_queueUp_4 (by decide) ?_
  refine nE_icmp_lt (tgt := 10) dX5_queueUp_6 (by decide) ⟨fun c1 => ?_, fun c1 => ?_⟩
  · have h := h.1 c1
    refine nE_aload_n dX5_queueUp_10 rfl rfl ?_
    refine nE_getI fl_X5_40 (sG_0 ho) rfl dX5_queueUp_11 ?_
    refine nE_istore_n dX5_queueUp_14 rfl rfl (by decide) ?_
    exact h
  · have h := h.2 c1
    exact nE_vret dX5_queueUp_9 rfl h
set_option maxRecDepth 20000 in
theorem sg_X5_queueUp_15 {o : Nat} (ho : isG o) (x1 : Int32) (x2 : Int32) {σ : nh_S} {Q : Option Value → nh_S → Prop} (h : (x2 ≤ 0 → ((vp_in x2 12) ∧ Q none (nh_si (nh_wa σ (o + 2) x2.toNatClampNeg x1) o 2 ((σ.1 o 2) + 1)))) ∧ (¬ (x2 ≤ 0) → ((vp_in (x2 - 1) 12) ∧ (vp_in (σ.2.1 (o + 2) ((x2 - 1).toNatClampNeg)) 12) ∧ (vp_in x1 12) ∧ (σ.2.1 (o + 3) ((σ.2.1 (o + 2) ((x2 - 1).toNatClampNeg)).toNatClampNeg) ≤ σ.2.1 (o + 3) x1.toNatClampNeg → ((vp_in x2 12) ∧ Q none (nh_si (nh_wa σ (o + 2) x2.toNatClampNeg x1) o 2 ((σ.1 o 2) + 1)))) ∧ (¬ (σ.2.1 (o + 3) ((σ.2.1 (o + 2) ((x2 - 1).toNatClampNeg)).toNatClampNeg) ≤ σ.2.1 (o + 3) x1.toNatClampNeg) → ((vp_in x2 12) ∧ nh_E kX5_queueUp 15 [some (.ref o), some (.int x1), some (.int (x2 + (-1)))] [] (nh_wa σ (o + 2) x2.toNatClampNeg (σ.2.1 (o + 2) ((x2 - 1).toNatClampNeg))) Q))))) : nh_E kX5_queueUp 15 [some (.ref o), some (.int x1), some (.int x2)] [] σ Q := by
  refine nE_iload_n dX5_queueUp_15 rfl rfl ?_
  refine nE_if_le (tgt := 61) dX5_queueUp_16 (by decide) ⟨fun c1 => ?_, fun c1 => ?_⟩
  · have h := h.1 c1
    refine nE_aload_n dX5_queueUp_61 rfl rfl ?_
    refine nE_getC fl_X5_15 (sG_0 ho) rfl dX5_queueUp_62 ?_
    refine nE_iload_n dX5_queueUp_65 rfl rfl ?_
    refine nE_iload_n dX5_queueUp_66 rfl rfl ?_
    obtain ⟨g2, h⟩ := h
    refine nG_iast (j := x2.toNatClampNeg) (sG_2 ho) rfl dX5_queueUp_67 ⟨g2, ?_⟩
    refine nE_aload_n dX5_queueUp_68 rfl rfl ?_
    refine nE_dup dX5_queueUp_69 rfl ?_
    refine nE_getI fl_X5_40 (sG_0 ho) rfl dX5_queueUp_70 ?_
    refine nE_iconst (v := 1) dX5_queueUp_73 (by decide) ?_
    refine nE_iadd dX5_queueUp_74 ?_
    refine nE_putI fl_X5_40 (sG_0 ho) rfl ⟨rfl, rfl⟩ dX5_queueUp_75 ?_
    exact nE_vret dX5_queueUp_78 rfl h
  · have h := h.2 c1
    refine nE_aload_n dX5_queueUp_19 rfl rfl ?_
    refine nE_getC fl_X5_22 (sG_0 ho) rfl dX5_queueUp_20 ?_
    refine nE_aload_n dX5_queueUp_23 rfl rfl ?_
    refine nE_getC fl_X5_15 (sG_0 ho) rfl dX5_queueUp_24 ?_
    refine nE_iload_n dX5_queueUp_27 rfl rfl ?_
    refine nE_iconst (v := 1) dX5_queueUp_28 (by decide) ?_
    refine nE_isub dX5_queueUp_29 ?_
    obtain ⟨g3, h⟩ := h
    refine nG_iald (j := (x2 - 1).toNatClampNeg) (sG_2 ho) rfl dX5_queueUp_30 ⟨g3, ?_⟩
    obtain ⟨g4, h⟩ := h
    refine nG_iald (j := (σ.2.1 (o + 2) ((x2 - 1).toNatClampNeg)).toNatClampNeg) (sG_3 ho) rfl dX5_queueUp_31 ⟨g4, ?_⟩
    refine nE_aload_n dX5_queueUp_32 rfl rfl ?_
    refine nE_getC fl_X5_22 (sG_0 ho) rfl dX5_queueUp_33 ?_
    refine nE_iload_n dX5_queueUp_36 rfl rfl ?_
    obtain ⟨g5, h⟩ := h
    refine nG_iald (j := x1.toNatClampNeg) (sG_3 ho) rfl dX5_queueUp_37 ⟨g5, ?_⟩
    refine nE_icmp_le (tgt := 61) dX5_queueUp_38 (by decide) ⟨fun c6 => ?_, fun c6 => ?_⟩
    · have h := h.1 c6
      refine nE_aload_n dX5_queueUp_61 rfl rfl ?_
      refine nE_getC fl_X5_15 (sG_0 ho) rfl dX5_queueUp_62 ?_
      refine nE_iload_n dX5_queueUp_65 rfl rfl ?_
      refine nE_iload_n dX5_queueUp_66 rfl rfl ?_
      obtain ⟨g7, h⟩ := h
      refine nG_iast (j := x2.toNatClampNeg) (sG_2 ho) rfl dX5_queueUp_67 ⟨g7, ?_⟩
      refine nE_aload_n dX5_queueUp_68 rfl rfl ?_
      refine nE_dup dX5_queueUp_69 rfl ?_
      refine nE_getI fl_X5_40 (sG_0 ho) rfl dX5_queueUp_70 ?_
      refine nE_iconst (v := 1) dX5_queueUp_73 (by decide) ?_
      refine nE_iadd dX5_queueUp_74 ?_
      refine nE_putI fl_X5_40 (sG_0 ho) rfl ⟨rfl, rfl⟩ dX5_queueUp_75 ?_
      exact nE_vret dX5_queueUp_78 rfl h
    · have h := h.2 c6
      refine nE_aload_n dX5_queueUp_41 rfl rfl ?_
      refine nE_getC fl_X5_15 (sG_0 ho) rfl dX5_queueUp_42 ?_
      refine nE_iload_n dX5_queueUp_45 rfl rfl ?_
      refine nE_aload_n dX5_queueUp_46 rfl rfl ?_
      refine nE_getC fl_X5_15 (sG_0 ho) rfl dX5_queueUp_47 ?_
      refine nE_iload_n dX5_queueUp_50 rfl rfl ?_
      refine nE_iconst (v := 1) dX5_queueUp_51 (by decide) ?_
      refine nE_isub dX5_queueUp_52 ?_
      refine nG_iald (j := (x2 - 1).toNatClampNeg) (sG_2 ho) rfl dX5_queueUp_53 ⟨g3, ?_⟩
      obtain ⟨g8, h⟩ := h
      refine nG_iast (j := x2.toNatClampNeg) (sG_2 ho) rfl dX5_queueUp_54 ⟨g8, ?_⟩
      refine nE_iinc (v := x2 + (-1)) dX5_queueUp_55 rfl rfl (by decide) rfl ?_
      refine nE_goto (tgt := 15) dX5_queueUp_58 (by decide) ?_
      exact h
set_option maxRecDepth 20000 in
theorem sg_X5_putAll_0 {o : Nat} (ho : isG o) {o1 : Nat} (ho1 : isP o1) {σ : nh_S} {Q : Option Value → nh_S → Prop} (h : nh_E kX5_putAll 4 [some (.ref o), some (.ref o1), some (.int 0), some (.int 0), none] [] σ Q) : nh_E kX5_putAll 0 [some (.ref o), some (.ref o1), none, none, none] [] σ Q := by
  refine nE_iconst (v := 0) dX5_putAll_0 (by decide) ?_
  refine nE_istore_n dX5_putAll_1 rfl rfl (by decide) ?_
  refine nE_iconst (v := 0) dX5_putAll_2 (by decide) ?_
  refine nE_istore_n dX5_putAll_3 rfl rfl (by decide) ?_
  exact h
set_option maxRecDepth 20000 in
theorem sg_X5_putAll_4 {o : Nat} (ho : isG o) {o1 : Nat} (ho1 : isP o1) (x2 : Int32) (x3 : Int32) {σ : nh_S} {Q : Option Value → nh_S → Prop} (h : (σ.1 o 2 ≤ x3 → (Q (some (.int x2)) σ)) ∧ (¬ (σ.1 o 2 ≤ x3) → ((vp_in x3 12) ∧ (x3 = 0 → ((vp_in (σ.2.1 (o + 2) x3.toNatClampNeg) 12) ∧ nh_E kX5_putAll 4 [some (.ref o), some (.ref o1), some (.int ((σ.2.1 (o + 1) ((σ.2.1 (o + 2) x3.toNatClampNeg).toNatClampNeg)) + (σ.2.1 (o1 + 19) ((σ.2.1 (o + 2) x3.toNatClampNeg).toNatClampNeg)))), some (.int (x3 + 1)), none] [] (nh_si σ o 3 (σ.2.1 (o + 2) x3.toNatClampNeg)) Q)) ∧ (¬ (x3 = 0) → ((vp_in (σ.2.1 (o + 2) x3.toNatClampNeg) 12) ∧ (σ.2.1 (o + 1) ((σ.2.1 (o + 2) x3.toNatClampNeg).toNatClampNeg) ≤ x2 → (nh_E kX5_putAll 4 [some (.ref o), some (.ref o1), some (.int (x2 + (σ.2.1 (o1 + 19) ((σ.2.1 (o + 2) x3.toNatClampNeg).toNatClampNeg)))), some (.int (x3 + 1)), none] [] σ Q)) ∧ (¬ (σ.2.1 (o + 1) ((σ.2.1 (o + 2) x3.toNatClampNeg).toNatClampNeg) ≤ x2) → (nh_E kX5_putAll 4 [some (.ref o), some (.ref o1), some (.int ((σ.2.1 (o + 1) ((σ.2.1 (o + 2) x3.toNatClampNeg).toNatClampNeg)) + (σ.2.1 (o1 + 19) ((σ.2.1 (o + 2) x3.toNatClampNeg).toNatClampNeg)))), some (.int (x3 + 1)), none] [] (nh_si σ o 3 (σ.2.1 (o + 2) x3.toNatClampNeg)) Q))))))) : nh_E kX5_putAll 4 [some (.ref o), some (.ref o1), some (.int x2), some (.int x3), none] [] σ Q := by
  refine nE_iload_n dX5_putAll_4 rfl rfl ?_
  refine nE_aload_n dX5_putAll_5 rfl rfl ?_
  refine nE_getI fl_X5_40 (sG_0 ho) rfl dX5_putAll_6 ?_
  refine nE_icmp_ge (tgt := 65) dX5_putAll_9 (by decide) ⟨fun c1 => ?_, fun c1 => ?_⟩
  · have h := h.1 c1
    refine nE_iload_n dX5_putAll_65 rfl rfl ?_
    exact nE_iret dX5_putAll_66 rfl h
  · have h := h.2 c1
    refine nE_aload_n dX5_putAll_12 rfl rfl ?_
    refine nE_getC fl_X5_15 (sG_0 ho) rfl dX5_putAll_13 ?_
    refine nE_iload_n dX5_putAll_16 rfl rfl ?_
    obtain ⟨g2, h⟩ := h
    refine nG_iald (j := x3.toNatClampNeg) (sG_2 ho) rfl dX5_putAll_17 ⟨g2, ?_⟩
    refine nE_istore dX5_putAll_18 rfl (by decide) ?_
    refine nE_iload_n dX5_putAll_20 rfl rfl ?_
    refine nE_if_eq (tgt := 35) dX5_putAll_21 (by decide) ⟨fun c3 => ?_, fun c3 => ?_⟩
    · have h := h.1 c3
      refine nE_aload_n dX5_putAll_35 rfl rfl ?_
      refine nE_iload dX5_putAll_36 rfl ?_
      refine nE_putI fl_X5_18 (sG_0 ho) rfl ⟨rfl, rfl⟩ dX5_putAll_38 ?_
      refine nE_aload_n dX5_putAll_41 rfl rfl ?_
      refine nE_getC fl_X5_9 (sG_0 ho) rfl dX5_putAll_42 ?_
      refine nE_iload dX5_putAll_45 rfl ?_
      obtain ⟨g4, h⟩ := h
      refine nG_iald (j := (σ.2.1 (o + 2) x3.toNatClampNeg).toNatClampNeg) (sG_1 ho) rfl dX5_putAll_47 ⟨g4, ?_⟩
      refine nE_istore_n dX5_putAll_48 rfl rfl (by decide) ?_
      refine nE_iload_n dX5_putAll_49 rfl rfl ?_
      refine nE_aload_n dX5_putAll_50 rfl rfl ?_
      refine nE_getC fl_X5_62 (sP_0 ho1) rfl dX5_putAll_51 ?_
      refine nE_iload dX5_putAll_54 rfl ?_
      refine nG_iald (j := (σ.2.1 (o + 2) x3.toNatClampNeg).toNatClampNeg) (sP_19 ho1) rfl dX5_putAll_56 ⟨g4, ?_⟩
      refine nE_iadd dX5_putAll_57 ?_
      refine nE_istore_n dX5_putAll_58 rfl rfl (by decide) ?_
      refine nE_iinc (v := x3 + 1) dX5_putAll_59 rfl rfl (by decide) rfl ?_
      refine nE_goto (tgt := 4) dX5_putAll_62 (by decide) ?_
      refine nE_weak 4 ?_
      exact h
    · have h := h.2 c3
      refine nE_aload_n dX5_putAll_24 rfl rfl ?_
      refine nE_getC fl_X5_9 (sG_0 ho) rfl dX5_putAll_25 ?_
      refine nE_iload dX5_putAll_28 rfl ?_
      obtain ⟨g5, h⟩ := h
      refine nG_iald (j := (σ.2.1 (o + 2) x3.toNatClampNeg).toNatClampNeg) (sG_1 ho) rfl dX5_putAll_30 ⟨g5, ?_⟩
      refine nE_iload_n dX5_putAll_31 rfl rfl ?_
      refine nE_icmp_le (tgt := 49) dX5_putAll_32 (by decide) ⟨fun c6 => ?_, fun c6 => ?_⟩
      · have h := h.1 c6
        refine nE_iload_n dX5_putAll_49 rfl rfl ?_
        refine nE_aload_n dX5_putAll_50 rfl rfl ?_
        refine nE_getC fl_X5_62 (sP_0 ho1) rfl dX5_putAll_51 ?_
        refine nE_iload dX5_putAll_54 rfl ?_
        refine nG_iald (j := (σ.2.1 (o + 2) x3.toNatClampNeg).toNatClampNeg) (sP_19 ho1) rfl dX5_putAll_56 ⟨g5, ?_⟩
        refine nE_iadd dX5_putAll_57 ?_
        refine nE_istore_n dX5_putAll_58 rfl rfl (by decide) ?_
        refine nE_iinc (v := x3 + 1) dX5_putAll_59 rfl rfl (by decide) rfl ?_
        refine nE_goto (tgt := 4) dX5_putAll_62 (by decide) ?_
        refine nE_weak 4 ?_
        exact h
      · have h := h.2 c6
        refine nE_aload_n dX5_putAll_35 rfl rfl ?_
        refine nE_iload dX5_putAll_36 rfl ?_
        refine nE_putI fl_X5_18 (sG_0 ho) rfl ⟨rfl, rfl⟩ dX5_putAll_38 ?_
        refine nE_aload_n dX5_putAll_41 rfl rfl ?_
        refine nE_getC fl_X5_9 (sG_0 ho) rfl dX5_putAll_42 ?_
        refine nE_iload dX5_putAll_45 rfl ?_
        refine nG_iald (j := (σ.2.1 (o + 2) x3.toNatClampNeg).toNatClampNeg) (sG_1 ho) rfl dX5_putAll_47 ⟨g5, ?_⟩
        refine nE_istore_n dX5_putAll_48 rfl rfl (by decide) ?_
        refine nE_iload_n dX5_putAll_49 rfl rfl ?_
        refine nE_aload_n dX5_putAll_50 rfl rfl ?_
        refine nE_getC fl_X5_62 (sP_0 ho1) rfl dX5_putAll_51 ?_
        refine nE_iload dX5_putAll_54 rfl ?_
        refine nG_iald (j := (σ.2.1 (o + 2) x3.toNatClampNeg).toNatClampNeg) (sP_19 ho1) rfl dX5_putAll_56 ⟨g5, ?_⟩
        refine nE_iadd dX5_putAll_57 ?_
        refine nE_istore_n dX5_putAll_58 rfl rfl (by decide) ?_
        refine nE_iinc (v := x3 + 1) dX5_putAll_59 rfl rfl (by decide) rfl ?_
        refine nE_goto (tgt := 4) dX5_putAll_62 (by decide) ?_
        refine nE_weak 4 ?_
        exact h
set_option maxRecDepth 20000 in
theorem sg_X6_append_0 (x1 : Int32) (x2 : Int64) {σ : nh_S} {Q : Option Value → nh_S → Prop} (h : nh_E kX6_append 5 [some (.ref 1), none, some (.long x2), none, some (.int (x1 - 1))] [] σ Q) : nh_E kX6_append 0 [some (.ref 1), some (.int x1), some (.long x2), none, none] [] σ Q := by
  refine nE_iload_n dX6_append_0 rfl rfl ?_
  refine nE_iconst (v := 1) dX6_append_1 (by decide) ?_
  refine nE_isub dX6_append_2 ?_
  refine nE_istore dX6_append_3 rfl (by decide) ?_
  refine nE_weak 1 ?_
  exact h
set_option maxRecDepth 20000 in
theorem sg_X6_append_5 (x2 : Int64) (x4 : Int32) {σ : nh_S} {Q : Option Value → nh_S → Prop} (h : (x4 < 0 → (Q none σ)) ∧ (¬ (x4 < 0) → ((600 ≤ σ.1 1 1 → (Q none σ)) ∧ (¬ (600 ≤ σ.1 1 1) → ((vp_in (σ.1 1 1) 600) ∧ nh_E kX6_append 5 [some (.ref 1), none, some (.long x2), none, some (.int (x4 + (-1)))] [] (nh_si (nh_wa σ 2 ((σ.1 1 1).toNatClampNeg) (vp_nar .char ((((((x2.toUInt64 >>> ((8 * x4).toInt64.toUInt64 &&& Int64.toUInt64 63)).toInt64) &&& 255).toInt32).toUInt32 % 65536).toInt32))) 1 1 ((σ.1 1 1) + 1)) Q))))) : nh_E kX6_append 5 [some (.ref 1), none, some (.long x2), none, some (.int x4)] [] σ Q := by
  refine nE_iload dX6_append_5 rfl ?_
  refine nE_if_lt (tgt := 58) dX6_append_7 (by decide) ⟨fun c1 => ?_, fun c1 => ?_⟩
  · have h := h.1 c1
    exact nE_vret dX6_append_58 rfl h
  · have h := h.2 c1
    refine nE_aload_n dX6_append_10 rfl rfl ?_
    refine nE_getI fl_X6_19 sC_1 rfl dX6_append_11 ?_
    refine nE_sipush (v := 600) dX6_append_14 (by decide) ?_
    refine nE_icmp_ge (tgt := 58) dX6_append_17 (by decide) ⟨fun c2 => ?_, fun c2 => ?_⟩
    · have h := h.1 c2
      exact nE_vret dX6_append_58 rfl h
    · have h := h.2 c2
      refine nE_aload_n dX6_append_20 rfl rfl ?_
      refine nE_getC fl_X6_9 sC_1 rfl dX6_append_21 ?_
      refine nE_aload_n dX6_append_24 rfl rfl ?_
      refine nE_getI fl_X6_19 sC_1 rfl dX6_append_25 ?_
      refine nE_lload_n dX6_append_28 rfl rfl ?_
      refine nE_bipush (v := 8) dX6_append_29 (by decide) ?_
      refine nE_iload dX6_append_31 rfl ?_
      refine nE_imul dX6_append_33 ?_
      refine nE_lushr dX6_append_34 ?_
      refine nE_ldc2 kc_X6_22 dX6_append_35 ?_
      refine nE_land dX6_append_38 ?_
      refine nE_l2i dX6_append_39 ?_
      refine nE_i2c dX6_append_40 ?_
      obtain ⟨g3, h⟩ := h
      refine nG_cast (j := (σ.1 1 1).toNatClampNeg) sC_2 rfl dX6_append_41 ⟨g3, ?_⟩
      refine nE_aload_n dX6_append_42 rfl rfl ?_
      refine nE_dup dX6_append_43 rfl ?_
      refine nE_getI fl_X6_19 sC_1 rfl dX6_append_44 ?_
      refine nE_iconst (v := 1) dX6_append_47 (by decide) ?_
      refine nE_iadd dX6_append_48 ?_
      refine nE_putI fl_X6_19 sC_1 rfl ⟨rfl, rfl⟩ dX6_append_49 ?_
      refine nE_iinc (v := x4 + (-1)) dX6_append_52 rfl rfl (by decide) rfl ?_
      refine nE_goto (tgt := 5) dX6_append_55 (by decide) ?_
      exact h
set_option maxRecDepth 20000 in
theorem sg_X6_begin_0  {σ : nh_S} {Q : Option Value → nh_S → Prop} (h : Q none (nh_si (nh_si (nh_si (nh_si σ 1 5 0) 1 2 0) 1 3 0) 1 4 (-1))) : nh_E kX6_begin 0 [some (.ref 1)] [] σ Q := by
  refine nE_aload_n dX6_begin_0 rfl rfl ?_
  refine nE_iconst (v := 0) dX6_begin_1 (by decide) ?_
  refine nE_putI fl_X6_24 sC_1 rfl ⟨rfl, rfl⟩ dX6_begin_2 ?_
  refine nE_aload_n dX6_begin_5 rfl rfl ?_
  refine nE_iconst (v := 0) dX6_begin_6 (by decide) ?_
  refine nE_putI fl_X6_27 sC_1 rfl ⟨rfl, rfl⟩ dX6_begin_7 ?_
  refine nE_aload_n dX6_begin_10 rfl rfl ?_
  refine nE_iconst (v := 0) dX6_begin_11 (by decide) ?_
  refine nE_putI fl_X6_30 sC_1 rfl ⟨rfl, rfl⟩ dX6_begin_12 ?_
  refine nE_aload_n dX6_begin_15 rfl rfl ?_
  refine nE_iconst (v := (-1)) dX6_begin_16 (by decide) ?_
  refine nE_putI fl_X6_15 sC_1 rfl ⟨rfl, rfl⟩ dX6_begin_17 ?_
  exact nE_vret dX6_begin_20 rfl h
set_option maxRecDepth 20000 in
theorem sg_X6_blame_0 (x1 : Int32) (x2 : Int32) {σ : nh_S} {Q : Option Value → nh_S → Prop} (h : (¬ (σ.1 1 3 = 0) → (Q none σ)) ∧ (σ.1 1 3 = 0 → (Q none (nh_si (nh_si σ 1 3 x1) 1 4 x2)))) : nh_E kX6_blame 0 [some (.ref 1), some (.int x1), some (.int x2)] [] σ Q := by
  refine nE_aload_n dX6_blame_0 rfl rfl ?_
  refine nE_callV (As := []) yf_X6_isSound ⟨by decide, by decide⟩ rfl rfl sC_1 rfl vl_X6_33 dX6_blame_1 rfl rfl (Nat.le_of_ble_eq_true rfl) (Nat.le_of_ble_eq_true rfl) (p_X6_isSound ?_)
  refine nE_ifb_eq (tgt := 17) dX6_blame_4 (by decide) ⟨fun c1 => ?_, fun c1 => ?_⟩
  · have h := h.1 c1
    exact nE_vret dX6_blame_17 rfl h
  · have h := h.2 c1
    refine nE_aload_n dX6_blame_7 rfl rfl ?_
    refine nE_iload_n dX6_blame_8 rfl rfl ?_
    refine nE_putI fl_X6_30 sC_1 rfl ⟨rfl, rfl⟩ dX6_blame_9 ?_
    refine nE_aload_n dX6_blame_12 rfl rfl ?_
    refine nE_iload_n dX6_blame_13 rfl rfl ?_
    refine nE_putI fl_X6_15 sC_1 rfl ⟨rfl, rfl⟩ dX6_blame_14 ?_
    exact nE_vret dX6_blame_17 rfl h
set_option maxRecDepth 20000 in
theorem sg_X6_blameHere_0  {σ : nh_S} {Q : Option Value → nh_S → Prop} (h : nh_E kX6_skipBlanks 0 [some (.ref 1)] [] σ (nh_qv fun τ1 => nh_E kX6_blame 0 [some (.ref 1), some (.int 1), some (.int (τ1.1 1 5))] [] τ1 (nh_qv fun τ4 => Q none τ4))) : nh_E kX6_blameHere 0 [some (.ref 1)] [] σ Q := by
  refine nE_aload_n dX6_blameHere_0 rfl rfl ?_
  refine nE_callV (As := []) yf_X6_skipBlanks ⟨by decide, by decide⟩ rfl rfl sC_1 rfl vl_X6_37 dX6_blameHere_1 rfl rfl (Nat.le_of_ble_eq_true rfl) (Nat.le_of_ble_eq_true rfl) (nE_mono (fun z3 τ1 h => ?_) h)
  obtain ⟨rfl, h⟩ := h
  refine nE_aload_n dX6_blameHere_4 rfl rfl ?_
  refine nE_iconst (v := 1) dX6_blameHere_5 (by decide) ?_
  refine nE_aload_n dX6_blameHere_6 rfl rfl ?_
  refine nE_getI fl_X6_24 sC_1 rfl dX6_blameHere_7 ?_
  refine nE_callV (As := [.int 1, .int (τ1.1 1 5)]) yf_X6_blame ⟨by decide, by decide⟩ rfl rfl sC_1 rfl vl_X6_40 dX6_blameHere_10 rfl rfl (Nat.le_of_ble_eq_true rfl) (Nat.le_of_ble_eq_true rfl) (nE_mono (fun z6 τ4 h => ?_) h)
  obtain ⟨rfl, h⟩ := h
  exact nE_vret dX6_blameHere_13 rfl h
set_option maxRecDepth 20000 in
theorem sg_X6_goesOn_0  {σ : nh_S} {Q : Option Value → nh_S → Prop} (h : nh_E kX6_skipBlanks 0 [some (.ref 1)] [] σ (nh_qv fun τ1 => Q (some (.int (if (τ1.1 1 3 = 0) ∧ (¬ (τ1.1 1 1 ≤ τ1.1 1 5)) then 1 else 0))) τ1)) : nh_E kX6_goesOn 0 [some (.ref 1)] [] σ Q := by
  refine nE_aload_n dX6_goesOn_0 rfl rfl ?_
  refine nE_callV (As := []) yf_X6_skipBlanks ⟨by decide, by decide⟩ rfl rfl sC_1 rfl vl_X6_37 dX6_goesOn_1 rfl rfl (Nat.le_of_ble_eq_true rfl) (Nat.le_of_ble_eq_true rfl) (nE_mono (fun z3 τ1 h => ?_) h)
  obtain ⟨rfl, h⟩ := h
  refine nE_aload_n dX6_goesOn_4 rfl rfl ?_
  refine nE_callV (As := []) yf_X6_isSound ⟨by decide, by decide⟩ rfl rfl sC_1 rfl vl_X6_33 dX6_goesOn_5 rfl rfl (Nat.le_of_ble_eq_true rfl) (Nat.le_of_ble_eq_true rfl) (p_X6_isSound ?_)
  have j4 : nh_E kX6_goesOn 27 [some (.ref 1)] [.int (if (τ1.1 1 3 = 0) ∧ (¬ (τ1.1 1 1 ≤ τ1.1 1 5)) then 1 else 0)] τ1 Q := by
    exact nE_zret (ty := .boolean) dX6_goesOn_27 rfl (nh_nb _) h
  refine nE_ifb_eq (tgt := 26) dX6_goesOn_8 (by decide) ⟨fun c5 => ?_, fun c5 => ?_⟩
  · skip
    have f6 : (τ1.1 1 3 = 0) = False := eq_false c5
    refine nE_iconst (v := 0) dX6_goesOn_26 (by decide) ?_
    exact nh_topi (show ((if (τ1.1 1 3 = 0) ∧ (¬ (τ1.1 1 1 ≤ τ1.1 1 5)) then 1 else 0) : Int32) = 0 from by simp only [if_true, if_false, not_true_eq_false, not_false_eq_true, true_and, and_true, false_and, and_false, true_or, or_true, false_or, or_false, if_pos, if_neg, ite_true, ite_false, f6]) j4
  · skip
    have f7 : (τ1.1 1 3 = 0) = True := eq_true c5
    refine nE_aload_n dX6_goesOn_11 rfl rfl ?_
    refine nE_getI fl_X6_24 sC_1 rfl dX6_goesOn_12 ?_
    refine nE_aload_n dX6_goesOn_15 rfl rfl ?_
    refine nE_getI fl_X6_19 sC_1 rfl dX6_goesOn_16 ?_
    refine nE_icmp_ge (tgt := 26) dX6_goesOn_19 (by decide) ⟨fun c8 => ?_, fun c8 => ?_⟩
    · skip
      have f9 : (τ1.1 1 1 ≤ τ1.1 1 5) = True := eq_true c8
      refine nE_iconst (v := 0) dX6_goesOn_26 (by decide) ?_
      exact nh_topi (show ((if (τ1.1 1 3 = 0) ∧ (¬ (τ1.1 1 1 ≤ τ1.1 1 5)) then 1 else 0) : Int32) = 0 from by simp only [if_true, if_false, not_true_eq_false, not_false_eq_true, true_and, and_true, false_and, and_false, true_or, or_true, false_or, or_false, if_pos, if_neg, ite_true, ite_false, f7, f9]) j4
    · skip
      have f10 : (τ1.1 1 1 ≤ τ1.1 1 5) = False := eq_false c8
      refine nE_iconst (v := 1) dX6_goesOn_22 (by decide) ?_
      refine nE_goto (tgt := 27) dX6_goesOn_23 (by decide) ?_
      exact nh_topi (show ((if (τ1.1 1 3 = 0) ∧ (¬ (τ1.1 1 1 ≤ τ1.1 1 5)) then 1 else 0) : Int32) = 1 from by simp only [if_true, if_false, not_true_eq_false, not_false_eq_true, true_and, and_true, false_and, and_false, true_or, or_true, false_or, or_false, if_pos, if_neg, ite_true, ite_false, f7, f10]) j4
set_option maxRecDepth 20000 in
theorem sg_X6_takesSign_0 (x1 : Int32) {σ : nh_S} {Q : Option Value → nh_S → Prop} (h : nh_E kX6_skipBlanks 0 [some (.ref 1)] [] σ (nh_qv fun τ1 => (¬ (τ1.1 1 3 = 0) → (Q (some (.int 0)) τ1)) ∧ (τ1.1 1 3 = 0 → ((τ1.1 1 1 ≤ τ1.1 1 5 → (Q (some (.int 0)) τ1)) ∧ (¬ (τ1.1 1 1 ≤ τ1.1 1 5) → ((vp_in (τ1.1 1 5) 600) ∧ (τ1.2.1 2 ((τ1.1 1 5).toNatClampNeg) = x1 → (Q (some (.int 1)) (nh_si (nh_si τ1 1 2 (τ1.1 1 5)) 1 5 ((τ1.1 1 5) + 1)))) ∧ (¬ (τ1.2.1 2 ((τ1.1 1 5).toNatClampNeg) = x1) → (Q (some (.int 0)) τ1)))))))) : nh_E kX6_takesSign 0 [some (.ref 1), some (.int x1)] [] σ Q := by
  refine nE_aload_n dX6_takesSign_0 rfl rfl ?_
  refine nE_callV (As := []) yf_X6_skipBlanks ⟨by decide, by decide⟩ rfl rfl sC_1 rfl vl_X6_37 dX6_takesSign_1 rfl rfl (Nat.le_of_ble_eq_true rfl) (Nat.le_of_ble_eq_true rfl) (nE_mono (fun z3 τ1 h => ?_) h)
  obtain ⟨rfl, h⟩ := h
  refine nE_aload_n dX6_takesSign_4 rfl rfl ?_
  refine nE_callV (As := []) yf_X6_isSound ⟨by decide, by decide⟩ rfl rfl sC_1 rfl vl_X6_33 dX6_takesSign_5 rfl rfl (Nat.le_of_ble_eq_true rfl) (Nat.le_of_ble_eq_true rfl) (p_X6_isSound ?_)
  refine nE_ifb_eq (tgt := 35) dX6_takesSign_8 (by decide) ⟨fun c4 => ?_, fun c4 => ?_⟩
  · have h := h.1 c4
    refine nE_iconst (v := 0) dX6_takesSign_35 (by decide) ?_
    exact nE_zret (ty := .boolean) dX6_takesSign_36 rfl (by decide) h
  · have h := h.2 c4
    refine nE_aload_n dX6_takesSign_11 rfl rfl ?_
    refine nE_getI fl_X6_24 sC_1 rfl dX6_takesSign_12 ?_
    refine nE_aload_n dX6_takesSign_15 rfl rfl ?_
    refine nE_getI fl_X6_19 sC_1 rfl dX6_takesSign_16 ?_
    refine nE_icmp_ge (tgt := 35) dX6_takesSign_19 (by decide) ⟨fun c5 => ?_, fun c5 => ?_⟩
    · have h := h.1 c5
      refine nE_iconst (v := 0) dX6_takesSign_35 (by decide) ?_
      exact nE_zret (ty := .boolean) dX6_takesSign_36 rfl (by decide) h
    · have h := h.2 c5
      refine nE_aload_n dX6_takesSign_22 rfl rfl ?_
      refine nE_getC fl_X6_9 sC_1 rfl dX6_takesSign_23 ?_
      refine nE_aload_n dX6_takesSign_26 rfl rfl ?_
      refine nE_getI fl_X6_24 sC_1 rfl dX6_takesSign_27 ?_
      obtain ⟨g6, h⟩ := h
      refine nG_cald (j := (τ1.1 1 5).toNatClampNeg) sC_2 rfl dX6_takesSign_30 ⟨g6, ?_⟩
      refine nE_iload_n dX6_takesSign_31 rfl rfl ?_
      refine nE_icmp_eq (tgt := 37) dX6_takesSign_32 (by decide) ⟨fun c7 => ?_, fun c7 => ?_⟩
      · have h := h.1 c7
        refine nE_aload_n dX6_takesSign_37 rfl rfl ?_
        refine nE_aload_n dX6_takesSign_38 rfl rfl ?_
        refine nE_getI fl_X6_24 sC_1 rfl dX6_takesSign_39 ?_
        refine nE_putI fl_X6_27 sC_1 rfl ⟨rfl, rfl⟩ dX6_takesSign_42 ?_
        refine nE_aload_n dX6_takesSign_45 rfl rfl ?_
        refine nE_dup dX6_takesSign_46 rfl ?_
        refine nE_getI fl_X6_24 sC_1 rfl dX6_takesSign_47 ?_
        refine nE_iconst (v := 1) dX6_takesSign_50 (by decide) ?_
        refine nE_iadd dX6_takesSign_51 ?_
        refine nE_putI fl_X6_24 sC_1 rfl ⟨rfl, rfl⟩ dX6_takesSign_52 ?_
        refine nE_iconst (v := 1) dX6_takesSign_55 (by decide) ?_
        exact nE_zret (ty := .boolean) dX6_takesSign_56 rfl (by decide) h
      · have h := h.2 c7
        refine nE_iconst (v := 0) dX6_takesSign_35 (by decide) ?_
        exact nE_zret (ty := .boolean) dX6_takesSign_36 rfl (by decide) h
set_option maxRecDepth 20000 in
theorem sg_X6_endClause_0  {σ : nh_S} {Q : Option Value → nh_S → Prop} (h : nh_E kX6_takesSign 0 [some (.ref 1), some (.int 59)] [] σ (nh_qi fun r2 τ1 => (¬ (r2 = 0) → (Q none τ1)) ∧ (r2 = 0 → (nh_E kX6_blameHere 0 [some (.ref 1)] [] τ1 (nh_qv fun τ5 => Q none τ5))))) : nh_E kX6_endClause 0 [some (.ref 1)] [] σ Q := by
  refine nE_aload_n dX6_endClause_0 rfl rfl ?_
  refine nE_bipush (v := 59) dX6_endClause_1 (by decide) ?_
  refine nE_callV (As := [.int 59]) yf_X6_takesSign ⟨by decide, by decide⟩ rfl rfl sC_1 rfl vl_X6_57 dX6_endClause_3 rfl rfl (Nat.le_of_ble_eq_true rfl) (Nat.le_of_ble_eq_true rfl) (nE_mono (fun z3 τ1 h => ?_) h)
  obtain ⟨r2, rfl, h⟩ := h
  refine nE_if_ne (tgt := 13) dX6_endClause_6 (by decide) ⟨fun c4 => ?_, fun c4 => ?_⟩
  · have h := h.1 c4
    exact nE_vret dX6_endClause_13 rfl h
  · have h := h.2 c4
    refine nE_aload_n dX6_endClause_9 rfl rfl ?_
    refine nE_callV (As := []) yf_X6_blameHere ⟨by decide, by decide⟩ rfl rfl sC_1 rfl vl_X6_60 dX6_endClause_10 rfl rfl (Nat.le_of_ble_eq_true rfl) (Nat.le_of_ble_eq_true rfl) (nE_mono (fun z7 τ5 h => ?_) h)
    obtain ⟨rfl, h⟩ := h
    exact nE_vret dX6_endClause_13 rfl h
set_option maxRecDepth 20000 in
theorem sg_X6_takeNumber_0 (x1 : Int32) (x2 : Int32) {σ : nh_S} {Q : Option Value → nh_S → Prop} (h : (σ.1 1 3 = 0 → (nh_E kX6_skipBlanks 0 [some (.ref 1)] [] σ (nh_qv fun τ2 => nh_E kX6_takeNumber 23 [some (.ref 1), some (.int x1), some (.int x2), some (.int 0), none] [] (nh_si τ2 1 2 (τ2.1 1 5)) Q))) ∧ (¬ (σ.1 1 3 = 0) → (Q (some (.int x1)) σ))) : nh_E kX6_takeNumber 0 [some (.ref 1), some (.int x1), some (.int x2), none, none] [] σ Q := by
  refine nE_aload_n dX6_takeNumber_0 rfl rfl ?_
  refine nE_callV (As := []) yf_X6_isSound ⟨by decide, by decide⟩ rfl rfl sC_1 rfl vl_X6_33 dX6_takeNumber_1 rfl rfl (Nat.le_of_ble_eq_true rfl) (Nat.le_of_ble_eq_true rfl) (p_X6_isSound ?_)
  refine nE_ifb_ne (tgt := 9) dX6_takeNumber_4 (by decide) ⟨fun c1 => ?_, fun c1 => ?_⟩
  · have h := h.1 c1
    refine nE_aload_n dX6_takeNumber_9 rfl rfl ?_
    refine nE_callV (As := []) yf_X6_skipBlanks ⟨by decide, by decide⟩ rfl rfl sC_1 rfl vl_X6_37 dX6_takeNumber_10 rfl rfl (Nat.le_of_ble_eq_true rfl) (Nat.le_of_ble_eq_true rfl) (nE_mono (fun z4 τ2 h => ?_) h)
    obtain ⟨rfl, h⟩ := h
    refine nE_aload_n dX6_takeNumber_13 rfl rfl ?_
    refine nE_aload_n dX6_takeNumber_14 rfl rfl ?_
    refine nE_getI fl_X6_24 sC_1 rfl dX6_takeNumber_15 ?_
    refine nE_putI fl_X6_27 sC_1 rfl ⟨rfl, rfl⟩ dX6_takeNumber_18 ?_
    refine nE_iconst (v := 0) dX6_takeNumber_21 (by decide) ?_
    refine nE_istore_n dX6_takeNumber_22 rfl rfl (by decide) ?_
    exact h
  · have h := h.2 c1
    refine nE_iload_n dX6_takeNumber_7 rfl rfl ?_
    exact nE_iret dX6_takeNumber_8 rfl h
set_option maxRecDepth 20000 in
theorem sg_X6_takeNumber_23 (x1 : Int32) (x2 : Int32) (x3 : Int32) {σ : nh_S} {Q : Option Value → nh_S → Prop} (h : (σ.1 1 1 ≤ σ.1 1 5 → ((¬ ((σ.1 1 5) - (σ.1 1 2) = 0) → ((3 < (σ.1 1 5) - (σ.1 1 2) → (nh_E kX6_blame 0 [some (.ref 1), some (.int 2), some (.int (σ.1 1 2))] [] σ (nh_qv fun τ4 => Q (some (.int (if τ4.1 1 3 = 0 then x3 else x1))) τ4))) ∧ (¬ (3 < (σ.1 1 5) - (σ.1 1 2)) → ((x3 < x1 → (nh_E kX6_blame 0 [some (.ref 1), some (.int 2), some (.int (σ.1 1 2))] [] σ (nh_qv fun τ12 => Q (some (.int (if τ12.1 1 3 = 0 then x3 else x1))) τ12))) ∧ (¬ (x3 < x1) → ((x3 ≤ x2 → (Q (some (.int (if σ.1 1 3 = 0 then x3 else x1))) σ)) ∧ (¬ (x3 ≤ x2) → (nh_E kX6_blame 0 [some (.ref 1), some (.int 2), some (.int (σ.1 1 2))] [] σ (nh_qv fun τ24 => Q (some (.int (if τ24.1 1 3 = 0 then x3 else x1))) τ24))))))))) ∧ ((σ.1 1 5) - (σ.1 1 2) = 0 → (nh_E kX6_blame 0 [some (.ref 1), some (.int 1), some (.int (σ.1 1 2))] [] σ (nh_qv fun τ31 => Q (some (.int (if τ31.1 1 3 = 0 then x3 else x1))) τ31))))) ∧ (¬ (σ.1 1 1 ≤ σ.1 1 5) → ((vp_in (σ.1 1 5) 600) ∧ (¬ (¬ (σ.2.1 2 ((σ.1 1 5).toNatClampNeg) < 48) ∧ ¬ (57 < σ.2.1 2 ((σ.1 1 5).toNatClampNeg))) → ((¬ ((σ.1 1 5) - (σ.1 1 2) = 0) → ((3 < (σ.1 1 5) - (σ.1 1 2) → (nh_E kX6_blame 0 [some (.ref 1), some (.int 2), some (.int (σ.1 1 2))] [] σ (nh_qv fun τ42 => Q (some (.int (if τ42.1 1 3 = 0 then x3 else x1))) τ42))) ∧ (¬ (3 < (σ.1 1 5) - (σ.1 1 2)) → ((x3 < x1 → (nh_E kX6_blame 0 [some (.ref 1), some (.int 2), some (.int (σ.1 1 2))] [] σ (nh_qv fun τ50 => Q (some (.int (if τ50.1 1 3 = 0 then x3 else x1))) τ50))) ∧ (¬ (x3 < x1) → ((x3 ≤ x2 → (Q (some (.int (if σ.1 1 3 = 0 then x3 else x1))) σ)) ∧ (¬ (x3 ≤ x2) → (nh_E kX6_blame 0 [some (.ref 1), some (.int 2), some (.int (σ.1 1 2))] [] σ (nh_qv fun τ62 => Q (some (.int (if τ62.1 1 3 = 0 then x3 else x1))) τ62))))))))) ∧ ((σ.1 1 5) - (σ.1 1 2) = 0 → (nh_E kX6_blame 0 [some (.ref 1), some (.int 1), some (.int (σ.1 1 2))] [] σ (nh_qv fun τ69 => Q (some (.int (if τ69.1 1 3 = 0 then x3 else x1))) τ69))))) ∧ (¬ (σ.2.1 2 ((σ.1 1 5).toNatClampNeg) < 48) ∧ ¬ (57 < σ.2.1 2 ((σ.1 1 5).toNatClampNeg)) → ((3 ≤ (σ.1 1 5) - (σ.1 1 2) → (nh_E kX6_takeNumber 23 [some (.ref 1), some (.int x1), some (.int x2), some (.int x3), none] [] (nh_si σ 1 5 ((σ.1 1 5) + 1)) Q)) ∧ (¬ (3 ≤ (σ.1 1 5) - (σ.1 1 2)) → (nh_E kX6_takeNumber 23 [some (.ref 1), some (.int x1), some (.int x2), some (.int (((x3 * 10) + (σ.2.1 2 ((σ.1 1 5).toNatClampNeg))) - 48)), none] [] (nh_si σ 1 5 ((σ.1 1 5) + 1)) Q))))))) : nh_E kX6_takeNumber 23 [some (.ref 1), some (.int x1), some (.int x2), some (.int x3), none] [] σ Q := by
  refine nE_aload_n dX6_takeNumber_23 rfl rfl ?_
  refine nE_getI fl_X6_24 sC_1 rfl dX6_takeNumber_24 ?_
  refine nE_aload_n dX6_takeNumber_27 rfl rfl ?_
  refine nE_getI fl_X6_19 sC_1 rfl dX6_takeNumber_28 ?_
  refine nE_icmp_ge (tgt := 93) dX6_takeNumber_31 (by decide) ⟨fun c1 => ?_, fun c1 => ?_⟩
  · have h := h.1 c1
    refine nE_aload_n dX6_takeNumber_93 rfl rfl ?_
    refine nE_getI fl_X6_24 sC_1 rfl dX6_takeNumber_94 ?_
    refine nE_aload_n dX6_takeNumber_97 rfl rfl ?_
    refine nE_getI fl_X6_27 sC_1 rfl dX6_takeNumber_98 ?_
    refine nE_isub dX6_takeNumber_101 ?_
    refine nE_istore dX6_takeNumber_102 rfl (by decide) ?_
    refine nE_iload dX6_takeNumber_104 rfl ?_
    refine nE_if_ne (tgt := 121) dX6_takeNumber_106 (by decide) ⟨fun c2 => ?_, fun c2 => ?_⟩
    · have h := h.1 c2
      refine nE_iload dX6_takeNumber_121 rfl ?_
      refine nE_iconst (v := 3) dX6_takeNumber_123 (by decide) ?_
      refine nE_icmp_gt (tgt := 137) dX6_takeNumber_124 (by decide) ⟨fun c3 => ?_, fun c3 => ?_⟩
      · have h := h.1 c3
        refine nE_aload_n dX6_takeNumber_137 rfl rfl ?_
        refine nE_iconst (v := 2) dX6_takeNumber_138 (by decide) ?_
        refine nE_aload_n dX6_takeNumber_139 rfl rfl ?_
        refine nE_getI fl_X6_27 sC_1 rfl dX6_takeNumber_140 ?_
        refine nE_callV (As := [.int 2, .int (σ.1 1 2)]) yf_X6_blame ⟨by decide, by decide⟩ rfl rfl sC_1 rfl vl_X6_40 dX6_takeNumber_143 rfl rfl (Nat.le_of_ble_eq_true rfl) (Nat.le_of_ble_eq_true rfl) (nE_mono (fun z6 τ4 h => ?_) h)
        obtain ⟨rfl, h⟩ := h
        refine nE_aload_n dX6_takeNumber_146 rfl rfl ?_
        refine nE_callV (As := []) yf_X6_isSound ⟨by decide, by decide⟩ rfl rfl sC_1 rfl vl_X6_33 dX6_takeNumber_147 rfl rfl (Nat.le_of_ble_eq_true rfl) (Nat.le_of_ble_eq_true rfl) (p_X6_isSound ?_)
        have j7 : nh_E kX6_takeNumber 158 [some (.ref 1), some (.int x1), some (.int x2), some (.int x3), some (.int ((σ.1 1 5) - (σ.1 1 2)))] [.int (if τ4.1 1 3 = 0 then x3 else x1)] τ4 Q := by
          exact nE_iret dX6_takeNumber_158 rfl h
        refine nE_ifb_eq (tgt := 157) dX6_takeNumber_150 (by decide) ⟨fun c8 => ?_, fun c8 => ?_⟩
        · skip
          have f9 : (τ4.1 1 3 = 0) = False := eq_false c8
          refine nE_iload_n dX6_takeNumber_157 rfl rfl ?_
          exact nh_topi (show ((if τ4.1 1 3 = 0 then x3 else x1) : Int32) = x1 from by simp only [if_true, if_false, not_true_eq_false, not_false_eq_true, true_and, and_true, false_and, and_false, true_or, or_true, false_or, or_false, if_pos, if_neg, ite_true, ite_false, f9]) j7
        · skip
          have f10 : (τ4.1 1 3 = 0) = True := eq_true c8
          refine nE_iload_n dX6_takeNumber_153 rfl rfl ?_
          refine nE_goto (tgt := 158) dX6_takeNumber_154 (by decide) ?_
          exact nh_topi (show ((if τ4.1 1 3 = 0 then x3 else x1) : Int32) = x3 from by simp only [if_true, if_false, not_true_eq_false, not_false_eq_true, true_and, and_true, false_and, and_false, true_or, or_true, false_or, or_false, if_pos, if_neg, ite_true, ite_false, f10]) j7
      · have h := h.2 c3
        refine nE_iload_n dX6_takeNumber_127 rfl rfl ?_
        refine nE_iload_n dX6_takeNumber_128 rfl rfl ?_
        refine nE_icmp_lt (tgt := 137) dX6_takeNumber_129 (by decide) ⟨fun c11 => ?_, fun c11 => ?_⟩
        · have h := h.1 c11
          refine nE_aload_n dX6_takeNumber_137 rfl rfl ?_
          refine nE_iconst (v := 2) dX6_takeNumber_138 (by decide) ?_
          refine nE_aload_n dX6_takeNumber_139 rfl rfl ?_
          refine nE_getI fl_X6_27 sC_1 rfl dX6_takeNumber_140 ?_
          refine nE_callV (As := [.int 2, .int (σ.1 1 2)]) yf_X6_blame ⟨by decide, by decide⟩ rfl rfl sC_1 rfl vl_X6_40 dX6_takeNumber_143 rfl rfl (Nat.le_of_ble_eq_true rfl) (Nat.le_of_ble_eq_true rfl) (nE_mono (fun z14 τ12 h => ?_) h)
          obtain ⟨rfl, h⟩ := h
          refine nE_aload_n dX6_takeNumber_146 rfl rfl ?_
          refine nE_callV (As := []) yf_X6_isSound ⟨by decide, by decide⟩ rfl rfl sC_1 rfl vl_X6_33 dX6_takeNumber_147 rfl rfl (Nat.le_of_ble_eq_true rfl) (Nat.le_of_ble_eq_true rfl) (p_X6_isSound ?_)
          have j15 : nh_E kX6_takeNumber 158 [some (.ref 1), some (.int x1), some (.int x2), some (.int x3), some (.int ((σ.1 1 5) - (σ.1 1 2)))] [.int (if τ12.1 1 3 = 0 then x3 else x1)] τ12 Q := by
            exact nE_iret dX6_takeNumber_158 rfl h
          refine nE_ifb_eq (tgt := 157) dX6_takeNumber_150 (by decide) ⟨fun c16 => ?_, fun c16 => ?_⟩
          · skip
            have f17 : (τ12.1 1 3 = 0) = False := eq_false c16
            refine nE_iload_n dX6_takeNumber_157 rfl rfl ?_
            exact nh_topi (show ((if τ12.1 1 3 = 0 then x3 else x1) : Int32) = x1 from by simp only [if_true, if_false, not_true_eq_false, not_false_eq_true, true_and, and_true, false_and, and_false, true_or, or_true, false_or, or_false, if_pos, if_neg, ite_true, ite_false, f17]) j15
          · skip
            have f18 : (τ12.1 1 3 = 0) = True := eq_true c16
            refine nE_iload_n dX6_takeNumber_153 rfl rfl ?_
            refine nE_goto (tgt := 158) dX6_takeNumber_154 (by decide) ?_
            exact nh_topi (show ((if τ12.1 1 3 = 0 then x3 else x1) : Int32) = x3 from by simp only [if_true, if_false, not_true_eq_false, not_false_eq_true, true_and, and_true, false_and, and_false, true_or, or_true, false_or, or_false, if_pos, if_neg, ite_true, ite_false, f18]) j15
        · have h := h.2 c11
          refine nE_iload_n dX6_takeNumber_132 rfl rfl ?_
          refine nE_iload_n dX6_takeNumber_133 rfl rfl ?_
          refine nE_icmp_le (tgt := 146) dX6_takeNumber_134 (by decide) ⟨fun c19 => ?_, fun c19 => ?_⟩
          · have h := h.1 c19
            refine nE_aload_n dX6_takeNumber_146 rfl rfl ?_
            refine nE_callV (As := []) yf_X6_isSound ⟨by decide, by decide⟩ rfl rfl sC_1 rfl vl_X6_33 dX6_takeNumber_147 rfl rfl (Nat.le_of_ble_eq_true rfl) (Nat.le_of_ble_eq_true rfl) (p_X6_isSound ?_)
            have j20 : nh_E kX6_takeNumber 158 [some (.ref 1), some (.int x1), some (.int x2), some (.int x3), some (.int ((σ.1 1 5) - (σ.1 1 2)))] [.int (if σ.1 1 3 = 0 then x3 else x1)] σ Q := by
              exact nE_iret dX6_takeNumber_158 rfl h
            refine nE_ifb_eq (tgt := 157) dX6_takeNumber_150 (by decide) ⟨fun c21 => ?_, fun c21 => ?_⟩
            · skip
              have f22 : (σ.1 1 3 = 0) = False := eq_false c21
              refine nE_iload_n dX6_takeNumber_157 rfl rfl ?_
              exact nh_topi (show ((if σ.1 1 3 = 0 then x3 else x1) : Int32) = x1 from by simp only [if_true, if_false, not_true_eq_false, not_false_eq_true, true_and, and_true, false_and, and_false, true_or, or_true, false_or, or_false, if_pos, if_neg, ite_true, ite_false, f22]) j20
            · skip
              have f23 : (σ.1 1 3 = 0) = True := eq_true c21
              refine nE_iload_n dX6_takeNumber_153 rfl rfl ?_
              refine nE_goto (tgt := 158) dX6_takeNumber_154 (by decide) ?_
              exact nh_topi (show ((if σ.1 1 3 = 0 then x3 else x1) : Int32) = x3 from by simp only [if_true, if_false, not_true_eq_false, not_false_eq_true, true_and, and_true, false_and, and_false, true_or, or_true, false_or, or_false, if_pos, if_neg, ite_true, ite_false, f23]) j20
          · have h := h.2 c19
            refine nE_aload_n dX6_takeNumber_137 rfl rfl ?_
            refine nE_iconst (v := 2) dX6_takeNumber_138 (by decide) ?_
            refine nE_aload_n dX6_takeNumber_139 rfl rfl ?_
            refine nE_getI fl_X6_27 sC_1 rfl dX6_takeNumber_140 ?_
            refine nE_callV (As := [.int 2, .int (σ.1 1 2)]) yf_X6_blame ⟨by decide, by decide⟩ rfl rfl sC_1 rfl vl_X6_40 dX6_takeNumber_143 rfl rfl (Nat.le_of_ble_eq_true rfl) (Nat.le_of_ble_eq_true rfl) (nE_mono (fun z26 τ24 h => ?_) h)
            obtain ⟨rfl, h⟩ := h
            refine nE_aload_n dX6_takeNumber_146 rfl rfl ?_
            refine nE_callV (As := []) yf_X6_isSound ⟨by decide, by decide⟩ rfl rfl sC_1 rfl vl_X6_33 dX6_takeNumber_147 rfl rfl (Nat.le_of_ble_eq_true rfl) (Nat.le_of_ble_eq_true rfl) (p_X6_isSound ?_)
            have j27 : nh_E kX6_takeNumber 158 [some (.ref 1), some (.int x1), some (.int x2), some (.int x3), some (.int ((σ.1 1 5) - (σ.1 1 2)))] [.int (if τ24.1 1 3 = 0 then x3 else x1)] τ24 Q := by
              exact nE_iret dX6_takeNumber_158 rfl h
            refine nE_ifb_eq (tgt := 157) dX6_takeNumber_150 (by decide) ⟨fun c28 => ?_, fun c28 => ?_⟩
            · skip
              have f29 : (τ24.1 1 3 = 0) = False := eq_false c28
              refine nE_iload_n dX6_takeNumber_157 rfl rfl ?_
              exact nh_topi (show ((if τ24.1 1 3 = 0 then x3 else x1) : Int32) = x1 from by simp only [if_true, if_false, not_true_eq_false, not_false_eq_true, true_and, and_true, false_and, and_false, true_or, or_true, false_or, or_false, if_pos, if_neg, ite_true, ite_false, f29]) j27
            · skip
              have f30 : (τ24.1 1 3 = 0) = True := eq_true c28
              refine nE_iload_n dX6_takeNumber_153 rfl rfl ?_
              refine nE_goto (tgt := 158) dX6_takeNumber_154 (by decide) ?_
              exact nh_topi (show ((if τ24.1 1 3 = 0 then x3 else x1) : Int32) = x3 from by simp only [if_true, if_false, not_true_eq_false, not_false_eq_true, true_and, and_true, false_and, and_false, true_or, or_true, false_or, or_false, if_pos, if_neg, ite_true, ite_false, f30]) j27
    · have h := h.2 c2
      refine nE_aload_n dX6_takeNumber_109 rfl rfl ?_
      refine nE_iconst (v := 1) dX6_takeNumber_110 (by decide) ?_
      refine nE_aload_n dX6_takeNumber_111 rfl rfl ?_
      refine nE_getI fl_X6_27 sC_1 rfl dX6_takeNumber_112 ?_
      refine nE_callV (As := [.int 1, .int (σ.1 1 2)]) yf_X6_blame ⟨by decide, by decide⟩ rfl rfl sC_1 rfl vl_X6_40 dX6_takeNumber_115 rfl rfl (Nat.le_of_ble_eq_true rfl) (Nat.le_of_ble_eq_true rfl) (nE_mono (fun z33 τ31 h => ?_) h)
      obtain ⟨rfl, h⟩ := h
      refine nE_goto (tgt := 146) dX6_takeNumber_118 (by decide) ?_
      refine nE_aload_n dX6_takeNumber_146 rfl rfl ?_
      refine nE_callV (As := []) yf_X6_isSound ⟨by decide, by decide⟩ rfl rfl sC_1 rfl vl_X6_33 dX6_takeNumber_147 rfl rfl (Nat.le_of_ble_eq_true rfl) (Nat.le_of_ble_eq_true rfl) (p_X6_isSound ?_)
      have j34 : nh_E kX6_takeNumber 158 [some (.ref 1), some (.int x1), some (.int x2), some (.int x3), some (.int ((σ.1 1 5) - (σ.1 1 2)))] [.int (if τ31.1 1 3 = 0 then x3 else x1)] τ31 Q := by
        exact nE_iret dX6_takeNumber_158 rfl h
      refine nE_ifb_eq (tgt := 157) dX6_takeNumber_150 (by decide) ⟨fun c35 => ?_, fun c35 => ?_⟩
      · skip
        have f36 : (τ31.1 1 3 = 0) = False := eq_false c35
        refine nE_iload_n dX6_takeNumber_157 rfl rfl ?_
        exact nh_topi (show ((if τ31.1 1 3 = 0 then x3 else x1) : Int32) = x1 from by simp only [if_true, if_false, not_true_eq_false, not_false_eq_true, true_and, and_true, false_and, and_false, true_or, or_true, false_or, or_false, if_pos, if_neg, ite_true, ite_false, f36]) j34
      · skip
        have f37 : (τ31.1 1 3 = 0) = True := eq_true c35
        refine nE_iload_n dX6_takeNumber_153 rfl rfl ?_
        refine nE_goto (tgt := 158) dX6_takeNumber_154 (by decide) ?_
        exact nh_topi (show ((if τ31.1 1 3 = 0 then x3 else x1) : Int32) = x3 from by simp only [if_true, if_false, not_true_eq_false, not_false_eq_true, true_and, and_true, false_and, and_false, true_or, or_true, false_or, or_false, if_pos, if_neg, ite_true, ite_false, f37]) j34
  · have h := h.2 c1
    refine nE_aload_n dX6_takeNumber_34 rfl rfl ?_
    refine nE_getC fl_X6_9 sC_1 rfl dX6_takeNumber_35 ?_
    refine nE_aload_n dX6_takeNumber_38 rfl rfl ?_
    refine nE_getI fl_X6_24 sC_1 rfl dX6_takeNumber_39 ?_
    obtain ⟨g38, h⟩ := h
    refine nG_cald (j := (σ.1 1 5).toNatClampNeg) sC_2 rfl dX6_takeNumber_42 ⟨g38, ?_⟩
    refine nE_callS (As := [.int (σ.2.1 2 ((σ.1 1 5).toNatClampNeg))]) yf_X6_isFigure ⟨by decide, by decide⟩ rfl sl_X6_63 dX6_takeNumber_43 rfl rfl (Nat.le_of_ble_eq_true rfl) (Nat.le_of_ble_eq_true rfl) (p_X6_isFigure _ ?_)
    refine nE_ifb_eq (tgt := 93) dX6_takeNumber_46 (by decide) ⟨fun c39 => ?_, fun c39 => ?_⟩
    · have h := h.1 c39
      refine nE_aload_n dX6_takeNumber_93 rfl rfl ?_
      refine nE_getI fl_X6_24 sC_1 rfl dX6_takeNumber_94 ?_
      refine nE_aload_n dX6_takeNumber_97 rfl rfl ?_
      refine nE_getI fl_X6_27 sC_1 rfl dX6_takeNumber_98 ?_
      refine nE_isub dX6_takeNumber_101 ?_
      refine nE_istore dX6_takeNumber_102 rfl (by decide) ?_
      refine nE_iload dX6_takeNumber_104 rfl ?_
      refine nE_if_ne (tgt := 121) dX6_takeNumber_106 (by decide) ⟨fun c40 => ?_, fun c40 => ?_⟩
      · have h := h.1 c40
        refine nE_iload dX6_takeNumber_121 rfl ?_
        refine nE_iconst (v := 3) dX6_takeNumber_123 (by decide) ?_
        refine nE_icmp_gt (tgt := 137) dX6_takeNumber_124 (by decide) ⟨fun c41 => ?_, fun c41 => ?_⟩
        · have h := h.1 c41
          refine nE_aload_n dX6_takeNumber_137 rfl rfl ?_
          refine nE_iconst (v := 2) dX6_takeNumber_138 (by decide) ?_
          refine nE_aload_n dX6_takeNumber_139 rfl rfl ?_
          refine nE_getI fl_X6_27 sC_1 rfl dX6_takeNumber_140 ?_
          refine nE_callV (As := [.int 2, .int (σ.1 1 2)]) yf_X6_blame ⟨by decide, by decide⟩ rfl rfl sC_1 rfl vl_X6_40 dX6_takeNumber_143 rfl rfl (Nat.le_of_ble_eq_true rfl) (Nat.le_of_ble_eq_true rfl) (nE_mono (fun z44 τ42 h => ?_) h)
          obtain ⟨rfl, h⟩ := h
          refine nE_aload_n dX6_takeNumber_146 rfl rfl ?_
          refine nE_callV (As := []) yf_X6_isSound ⟨by decide, by decide⟩ rfl rfl sC_1 rfl vl_X6_33 dX6_takeNumber_147 rfl rfl (Nat.le_of_ble_eq_true rfl) (Nat.le_of_ble_eq_true rfl) (p_X6_isSound ?_)
          have j45 : nh_E kX6_takeNumber 158 [some (.ref 1), some (.int x1), some (.int x2), some (.int x3), some (.int ((σ.1 1 5) - (σ.1 1 2)))] [.int (if τ42.1 1 3 = 0 then x3 else x1)] τ42 Q := by
            exact nE_iret dX6_takeNumber_158 rfl h
          refine nE_ifb_eq (tgt := 157) dX6_takeNumber_150 (by decide) ⟨fun c46 => ?_, fun c46 => ?_⟩
          · skip
            have f47 : (τ42.1 1 3 = 0) = False := eq_false c46
            refine nE_iload_n dX6_takeNumber_157 rfl rfl ?_
            exact nh_topi (show ((if τ42.1 1 3 = 0 then x3 else x1) : Int32) = x1 from by simp only [if_true, if_false, not_true_eq_false, not_false_eq_true, true_and, and_true, false_and, and_false, true_or, or_true, false_or, or_false, if_pos, if_neg, ite_true, ite_false, f47]) j45
          · skip
            have f48 : (τ42.1 1 3 = 0) = True := eq_true c46
            refine nE_iload_n dX6_takeNumber_153 rfl rfl ?_
            refine nE_goto (tgt := 158) dX6_takeNumber_154 (by decide) ?_
            exact nh_topi (show ((if τ42.1 1 3 = 0 then x3 else x1) : Int32) = x3 from by simp only [if_true, if_false, not_true_eq_false, not_false_eq_true, true_and, and_true, false_and, and_false, true_or, or_true, false_or, or_false, if_pos, if_neg, ite_true, ite_false, f48]) j45
        · have h := h.2 c41
          refine nE_iload_n dX6_takeNumber_127 rfl rfl ?_
          refine nE_iload_n dX6_takeNumber_128 rfl rfl ?_
          refine nE_icmp_lt (tgt := 137) dX6_takeNumber_129 (by decide) ⟨fun c49 => ?_, fun c49 => ?_⟩
          · have h := h.1 c49
            refine nE_aload_n dX6_takeNumber_137 rfl rfl ?_
            refine nE_iconst (v := 2) dX6_takeNumber_138 (by decide) ?_
            refine nE_aload_n dX6_takeNumber_139 rfl rfl ?_
            refine nE_getI fl_X6_27 sC_1 rfl dX6_takeNumber_140 ?_
            refine nE_callV (As := [.int 2, .int (σ.1 1 2)]) yf_X6_blame ⟨by decide, by decide⟩ rfl rfl sC_1 rfl vl_X6_40 dX6_takeNumber_143 rfl rfl (Nat.le_of_ble_eq_true rfl) (Nat.le_of_ble_eq_true rfl) (nE_mono (fun z52 τ50 h => ?_) h)
            obtain ⟨rfl, h⟩ := h
            refine nE_aload_n dX6_takeNumber_146 rfl rfl ?_
            refine nE_callV (As := []) yf_X6_isSound ⟨by decide, by decide⟩ rfl rfl sC_1 rfl vl_X6_33 dX6_takeNumber_147 rfl rfl (Nat.le_of_ble_eq_true rfl) (Nat.le_of_ble_eq_true rfl) (p_X6_isSound ?_)
            have j53 : nh_E kX6_takeNumber 158 [some (.ref 1), some (.int x1), some (.int x2), some (.int x3), some (.int ((σ.1 1 5) - (σ.1 1 2)))] [.int (if τ50.1 1 3 = 0 then x3 else x1)] τ50 Q := by
              exact nE_iret dX6_takeNumber_158 rfl h
            refine nE_ifb_eq (tgt := 157) dX6_takeNumber_150 (by decide) ⟨fun c54 => ?_, fun c54 => ?_⟩
            · skip
              have f55 : (τ50.1 1 3 = 0) = False := eq_false c54
              refine nE_iload_n dX6_takeNumber_157 rfl rfl ?_
              exact nh_topi (show ((if τ50.1 1 3 = 0 then x3 else x1) : Int32) = x1 from by simp only [if_true, if_false, not_true_eq_false, not_false_eq_true, true_and, and_true, false_and, and_false, true_or, or_true, false_or, or_false, if_pos, if_neg, ite_true, ite_false, f55]) j53
            · skip
              have f56 : (τ50.1 1 3 = 0) = True := eq_true c54
              refine nE_iload_n dX6_takeNumber_153 rfl rfl ?_
              refine nE_goto (tgt := 158) dX6_takeNumber_154 (by decide) ?_
              exact nh_topi (show ((if τ50.1 1 3 = 0 then x3 else x1) : Int32) = x3 from by simp only [if_true, if_false, not_true_eq_false, not_false_eq_true, true_and, and_true, false_and, and_false, true_or, or_true, false_or, or_false, if_pos, if_neg, ite_true, ite_false, f56]) j53
          · have h := h.2 c49
            refine nE_iload_n dX6_takeNumber_132 rfl rfl ?_
            refine nE_iload_n dX6_takeNumber_133 rfl rfl ?_
            refine nE_icmp_le (tgt := 146) dX6_takeNumber_134 (by decide) ⟨fun c57 => ?_, fun c57 => ?_⟩
            · have h := h.1 c57
              refine nE_aload_n dX6_takeNumber_146 rfl rfl ?_
              refine nE_callV (As := []) yf_X6_isSound ⟨by decide, by decide⟩ rfl rfl sC_1 rfl vl_X6_33 dX6_takeNumber_147 rfl rfl (Nat.le_of_ble_eq_true rfl) (Nat.le_of_ble_eq_true rfl) (p_X6_isSound ?_)
              have j58 : nh_E kX6_takeNumber 158 [some (.ref 1), some (.int x1), some (.int x2), some (.int x3), some (.int ((σ.1 1 5) - (σ.1 1 2)))] [.int (if σ.1 1 3 = 0 then x3 else x1)] σ Q := by
                exact nE_iret dX6_takeNumber_158 rfl h
              refine nE_ifb_eq (tgt := 157) dX6_takeNumber_150 (by decide) ⟨fun c59 => ?_, fun c59 => ?_⟩
              · skip
                have f60 : (σ.1 1 3 = 0) = False := eq_false c59
                refine nE_iload_n dX6_takeNumber_157 rfl rfl ?_
                exact nh_topi (show ((if σ.1 1 3 = 0 then x3 else x1) : Int32) = x1 from by simp only [if_true, if_false, not_true_eq_false, not_false_eq_true, true_and, and_true, false_and, and_false, true_or, or_true, false_or, or_false, if_pos, if_neg, ite_true, ite_false, f60]) j58
              · skip
                have f61 : (σ.1 1 3 = 0) = True := eq_true c59
                refine nE_iload_n dX6_takeNumber_153 rfl rfl ?_
                refine nE_goto (tgt := 158) dX6_takeNumber_154 (by decide) ?_
                exact nh_topi (show ((if σ.1 1 3 = 0 then x3 else x1) : Int32) = x3 from by simp only [if_true, if_false, not_true_eq_false, not_false_eq_true, true_and, and_true, false_and, and_false, true_or, or_true, false_or, or_false, if_pos, if_neg, ite_true, ite_false, f61]) j58
            · have h := h.2 c57
              refine nE_aload_n dX6_takeNumber_137 rfl rfl ?_
              refine nE_iconst (v := 2) dX6_takeNumber_138 (by decide) ?_
              refine nE_aload_n dX6_takeNumber_139 rfl rfl ?_
              refine nE_getI fl_X6_27 sC_1 rfl dX6_takeNumber_140 ?_
              refine nE_callV (As := [.int 2, .int (σ.1 1 2)]) yf_X6_blame ⟨by decide, by decide⟩ rfl rfl sC_1 rfl vl_X6_40 dX6_takeNumber_143 rfl rfl (Nat.le_of_ble_eq_true rfl) (Nat.le_of_ble_eq_true rfl) (nE_mono (fun z64 τ62 h => ?_) h)
              obtain ⟨rfl, h⟩ := h
              refine nE_aload_n dX6_takeNumber_146 rfl rfl ?_
              refine nE_callV (As := []) yf_X6_isSound ⟨by decide, by decide⟩ rfl rfl sC_1 rfl vl_X6_33 dX6_takeNumber_147 rfl rfl (Nat.le_of_ble_eq_true rfl) (Nat.le_of_ble_eq_true rfl) (p_X6_isSound ?_)
              have j65 : nh_E kX6_takeNumber 158 [some (.ref 1), some (.int x1), some (.int x2), some (.int x3), some (.int ((σ.1 1 5) - (σ.1 1 2)))] [.int (if τ62.1 1 3 = 0 then x3 else x1)] τ62 Q := by
                exact nE_iret dX6_takeNumber_158 rfl h
              refine nE_ifb_eq (tgt := 157) dX6_takeNumber_150 (by decide) ⟨fun c66 => ?_, fun c66 => ?_⟩
              · skip
                have f67 : (τ62.1 1 3 = 0) = False := eq_false c66
                refine nE_iload_n dX6_takeNumber_157 rfl rfl ?_
                exact nh_topi (show ((if τ62.1 1 3 = 0 then x3 else x1) : Int32) = x1 from by simp only [if_true, if_false, not_true_eq_false, not_false_eq_true, true_and, and_true, false_and, and_false, true_or, or_true, false_or, or_false, if_pos, if_neg, ite_true, ite_false, f67]) j65
              · skip
                have f68 : (τ62.1 1 3 = 0) = True := eq_true c66
                refine nE_iload_n dX6_takeNumber_153 rfl rfl ?_
                refine nE_goto (tgt := 158) dX6_takeNumber_154 (by decide) ?_
                exact nh_topi (show ((if τ62.1 1 3 = 0 then x3 else x1) : Int32) = x3 from by simp only [if_true, if_false, not_true_eq_false, not_false_eq_true, true_and, and_true, false_and, and_false, true_or, or_true, false_or, or_false, if_pos, if_neg, ite_true, ite_false, f68]) j65
      · have h := h.2 c40
        refine nE_aload_n dX6_takeNumber_109 rfl rfl ?_
        refine nE_iconst (v := 1) dX6_takeNumber_110 (by decide) ?_
        refine nE_aload_n dX6_takeNumber_111 rfl rfl ?_
        refine nE_getI fl_X6_27 sC_1 rfl dX6_takeNumber_112 ?_
        refine nE_callV (As := [.int 1, .int (σ.1 1 2)]) yf_X6_blame ⟨by decide, by decide⟩ rfl rfl sC_1 rfl vl_X6_40 dX6_takeNumber_115 rfl rfl (Nat.le_of_ble_eq_true rfl) (Nat.le_of_ble_eq_true rfl) (nE_mono (fun z71 τ69 h => ?_) h)
        obtain ⟨rfl, h⟩ := h
        refine nE_goto (tgt := 146) dX6_takeNumber_118 (by decide) ?_
        refine nE_aload_n dX6_takeNumber_146 rfl rfl ?_
        refine nE_callV (As := []) yf_X6_isSound ⟨by decide, by decide⟩ rfl rfl sC_1 rfl vl_X6_33 dX6_takeNumber_147 rfl rfl (Nat.le_of_ble_eq_true rfl) (Nat.le_of_ble_eq_true rfl) (p_X6_isSound ?_)
        have j72 : nh_E kX6_takeNumber 158 [some (.ref 1), some (.int x1), some (.int x2), some (.int x3), some (.int ((σ.1 1 5) - (σ.1 1 2)))] [.int (if τ69.1 1 3 = 0 then x3 else x1)] τ69 Q := by
          exact nE_iret dX6_takeNumber_158 rfl h
        refine nE_ifb_eq (tgt := 157) dX6_takeNumber_150 (by decide) ⟨fun c73 => ?_, fun c73 => ?_⟩
        · skip
          have f74 : (τ69.1 1 3 = 0) = False := eq_false c73
          refine nE_iload_n dX6_takeNumber_157 rfl rfl ?_
          exact nh_topi (show ((if τ69.1 1 3 = 0 then x3 else x1) : Int32) = x1 from by simp only [if_true, if_false, not_true_eq_false, not_false_eq_true, true_and, and_true, false_and, and_false, true_or, or_true, false_or, or_false, if_pos, if_neg, ite_true, ite_false, f74]) j72
        · skip
          have f75 : (τ69.1 1 3 = 0) = True := eq_true c73
          refine nE_iload_n dX6_takeNumber_153 rfl rfl ?_
          refine nE_goto (tgt := 158) dX6_takeNumber_154 (by decide) ?_
          exact nh_topi (show ((if τ69.1 1 3 = 0 then x3 else x1) : Int32) = x3 from by simp only [if_true, if_false, not_true_eq_false, not_false_eq_true, true_and, and_true, false_and, and_false, true_or, or_true, false_or, or_false, if_pos, if_neg, ite_true, ite_false, f75]) j72
    · have h := h.2 c39
      refine nE_aload_n dX6_takeNumber_49 rfl rfl ?_
      refine nE_getI fl_X6_24 sC_1 rfl dX6_takeNumber_50 ?_
      refine nE_aload_n dX6_takeNumber_53 rfl rfl ?_
      refine nE_getI fl_X6_27 sC_1 rfl dX6_takeNumber_54 ?_
      refine nE_isub dX6_takeNumber_57 ?_
      refine nE_iconst (v := 3) dX6_takeNumber_58 (by decide) ?_
      refine nE_icmp_ge (tgt := 80) dX6_takeNumber_59 (by decide) ⟨fun c76 => ?_, fun c76 => ?_⟩
      · have h := h.1 c76
        refine nE_aload_n dX6_takeNumber_80 rfl rfl ?_
        refine nE_dup dX6_takeNumber_81 rfl ?_
        refine nE_getI fl_X6_24 sC_1 rfl dX6_takeNumber_82 ?_
        refine nE_iconst (v := 1) dX6_takeNumber_85 (by decide) ?_
        refine nE_iadd dX6_takeNumber_86 ?_
        refine nE_putI fl_X6_24 sC_1 rfl ⟨rfl, rfl⟩ dX6_takeNumber_87 ?_
        refine nE_goto (tgt := 23) dX6_takeNumber_90 (by decide) ?_
        exact h
      · have h := h.2 c76
        refine nE_iload_n dX6_takeNumber_62 rfl rfl ?_
        refine nE_bipush (v := 10) dX6_takeNumber_63 (by decide) ?_
        refine nE_imul dX6_takeNumber_65 ?_
        refine nE_aload_n dX6_takeNumber_66 rfl rfl ?_
        refine nE_getC fl_X6_9 sC_1 rfl dX6_takeNumber_67 ?_
        refine nE_aload_n dX6_takeNumber_70 rfl rfl ?_
        refine nE_getI fl_X6_24 sC_1 rfl dX6_takeNumber_71 ?_
        refine nG_cald (j := (σ.1 1 5).toNatClampNeg) sC_2 rfl dX6_takeNumber_74 ⟨g38, ?_⟩
        refine nE_iadd dX6_takeNumber_75 ?_
        refine nE_bipush (v := 48) dX6_takeNumber_76 (by decide) ?_
        refine nE_isub dX6_takeNumber_78 ?_
        refine nE_istore_n dX6_takeNumber_79 rfl rfl (by decide) ?_
        refine nE_aload_n dX6_takeNumber_80 rfl rfl ?_
        refine nE_dup dX6_takeNumber_81 rfl ?_
        refine nE_getI fl_X6_24 sC_1 rfl dX6_takeNumber_82 ?_
        refine nE_iconst (v := 1) dX6_takeNumber_85 (by decide) ?_
        refine nE_iadd dX6_takeNumber_86 ?_
        refine nE_putI fl_X6_24 sC_1 rfl ⟨rfl, rfl⟩ dX6_takeNumber_87 ?_
        refine nE_goto (tgt := 23) dX6_takeNumber_90 (by decide) ?_
        exact h
set_option maxRecDepth 20000 in
theorem sg_X6_skipBlanks_0  {σ : nh_S} {Q : Option Value → nh_S → Prop} (h : (σ.1 1 1 ≤ σ.1 1 5 → (Q none σ)) ∧ (¬ (σ.1 1 1 ≤ σ.1 1 5) → ((vp_in (σ.1 1 5) 600) ∧ (¬ (σ.2.1 2 ((σ.1 1 5).toNatClampNeg) = 32) → (Q none σ)) ∧ (σ.2.1 2 ((σ.1 1 5).toNatClampNeg) = 32 → (nh_E kX6_skipBlanks 0 [some (.ref 1)] [] (nh_si σ 1 5 ((σ.1 1 5) + 1)) Q))))) : nh_E kX6_skipBlanks 0 [some (.ref 1)] [] σ Q := by
  refine nE_aload_n dX6_skipBlanks_0 rfl rfl ?_
  refine nE_getI fl_X6_24 sC_1 rfl dX6_skipBlanks_1 ?_
  refine nE_aload_n dX6_skipBlanks_4 rfl rfl ?_
  refine nE_getI fl_X6_19 sC_1 rfl dX6_skipBlanks_5 ?_
  refine nE_icmp_ge (tgt := 38) dX6_skipBlanks_8 (by decide) ⟨fun c1 => ?_, fun c1 => ?_⟩
  · have h := h.1 c1
    exact nE_vret dX6_skipBlanks_38 rfl h
  · have h := h.2 c1
    refine nE_aload_n dX6_skipBlanks_11 rfl rfl ?_
    refine nE_getC fl_X6_9 sC_1 rfl dX6_skipBlanks_12 ?_
    refine nE_aload_n dX6_skipBlanks_15 rfl rfl ?_
    refine nE_getI fl_X6_24 sC_1 rfl dX6_skipBlanks_16 ?_
    obtain ⟨g2, h⟩ := h
    refine nG_cald (j := (σ.1 1 5).toNatClampNeg) sC_2 rfl dX6_skipBlanks_19 ⟨g2, ?_⟩
    refine nE_bipush (v := 32) dX6_skipBlanks_20 (by decide) ?_
    refine nE_icmp_ne (tgt := 38) dX6_skipBlanks_22 (by decide) ⟨fun c3 => ?_, fun c3 => ?_⟩
    · have h := h.1 c3
      exact nE_vret dX6_skipBlanks_38 rfl h
    · have h := h.2 c3
      refine nE_aload_n dX6_skipBlanks_25 rfl rfl ?_
      refine nE_dup dX6_skipBlanks_26 rfl ?_
      refine nE_getI fl_X6_24 sC_1 rfl dX6_skipBlanks_27 ?_
      refine nE_iconst (v := 1) dX6_skipBlanks_30 (by decide) ?_
      refine nE_iadd dX6_skipBlanks_31 ?_
      refine nE_putI fl_X6_24 sC_1 rfl ⟨rfl, rfl⟩ dX6_skipBlanks_32 ?_
      refine nE_goto (tgt := 0) dX6_skipBlanks_35 (by decide) ?_
      exact h
set_option maxRecDepth 20000 in
theorem sg_X7_run_0 {o1 : Nat} (ho1 : isP o1) {o2 : Nat} (ho2 : isL o2) (x3 : Int32) (x4 : Int32) {σ : nh_S} {Q : Option Value → nh_S → Prop} (h : nh_E kJ7_fill_53178 0 [some (.ref 13), some (.int (-1)), none, none] [] σ (nh_qv fun τ1 => nh_E kJ7_fill_53178 0 [some (.ref 14), some (.int (-1)), none, none] [] τ1 (nh_qv fun τ4 => nh_E kX7_rouse 0 [some (.ref 12), some (.int x3), some (.int 0)] [] (nh_si τ4 12 4 0) (nh_qv fun τ7 => nh_E kX7_run 30 [some (.ref 12), some (.ref o1), some (.ref o2), some (.int x3), some (.int x4), some (.int 0)] [] τ7 Q)))) : nh_E kX7_run 0 [some (.ref 12), some (.ref o1), some (.ref o2), some (.int x3), some (.int x4), none] [] σ Q := by
  refine nE_aload_n dX7_run_0 rfl rfl ?_
  refine nE_getC fl_X7_9 sC_12 rfl dX7_run_1 ?_
  refine nE_iconst (v := (-1)) dX7_run_4 (by decide) ?_
  refine nE_callS (As := [.ref 13, .int (-1)]) yf_J7_fill_53178 ⟨by decide, by decide⟩ rfl sl_X7_24 dX7_run_5 rfl rfl (Nat.le_of_ble_eq_true rfl) (Nat.le_of_ble_eq_true rfl) (nE_mono (fun z3 τ1 h => ?_) h)
  obtain ⟨rfl, h⟩ := h
  refine nE_aload_n dX7_run_8 rfl rfl ?_
  refine nE_getC fl_X7_15 sC_12 rfl dX7_run_9 ?_
  refine nE_iconst (v := (-1)) dX7_run_12 (by decide) ?_
  refine nE_callS (As := [.ref 14, .int (-1)]) yf_J7_fill_53178 ⟨by decide, by decide⟩ rfl sl_X7_24 dX7_run_13 rfl rfl (Nat.le_of_ble_eq_true rfl) (Nat.le_of_ble_eq_true rfl) (nE_mono (fun z6 τ4 h => ?_) h)
  obtain ⟨rfl, h⟩ := h
  refine nE_aload_n dX7_run_16 rfl rfl ?_
  refine nE_iconst (v := 0) dX7_run_17 (by decide) ?_
  refine nE_putI fl_X7_30 sC_12 rfl ⟨rfl, rfl⟩ dX7_run_18 ?_
  refine nE_aload_n dX7_run_21 rfl rfl ?_
  refine nE_iload_n dX7_run_22 rfl rfl ?_
  refine nE_iconst (v := 0) dX7_run_23 (by decide) ?_
  refine nE_callV (As := [.int x3, .int 0]) yf_X7_rouse ⟨by decide, by decide⟩ rfl rfl sC_12 rfl vl_X7_34 dX7_run_24 rfl rfl (Nat.le_of_ble_eq_true rfl) (Nat.le_of_ble_eq_true rfl) (nE_mono (fun z9 τ7 h => ?_) h)
  obtain ⟨rfl, h⟩ := h
  refine nE_iconst (v := 0) dX7_run_27 (by decide) ?_
  refine nE_istore dX7_run_28 rfl (by decide) ?_
  exact h
set_option maxRecDepth 20000 in
theorem sg_X7_run_30 {o1 : Nat} (ho1 : isP o1) {o2 : Nat} (ho2 : isL o2) (x3 : Int32) (x4 : Int32) (x5 : Int32) {σ : nh_S} {Q : Option Value → nh_S → Prop} (h : (σ.1 12 4 ≤ x5 → (Q none σ)) ∧ (¬ (σ.1 12 4 ≤ x5) → ((9 ≤ x5 → (Q none σ)) ∧ (¬ (9 ≤ x5) → ((vp_in x5 9) ∧ nh_E kX7_goRound 0 [some (.ref 12), some (.ref o1), some (.ref o2), some (.int (σ.2.1 16 x5.toNatClampNeg)), some (.int x3), some (.int x4), none, none, none, none, none] [] σ (nh_qv fun τ4 => nh_E kX7_run 30 [some (.ref 12), some (.ref o1), some (.ref o2), some (.int x3), some (.int x4), some (.int (x5 + 1))] [] τ4 Q)))))) : nh_E kX7_run 30 [some (.ref 12), some (.ref o1), some (.ref o2), some (.int x3), some (.int x4), some (.int x5)] [] σ Q := by
  refine nE_iload dX7_run_30 rfl ?_
  refine nE_aload_n dX7_run_32 rfl rfl ?_
  refine nE_getI fl_X7_30 sC_12 rfl dX7_run_33 ?_
  refine nE_icmp_ge (tgt := 68) dX7_run_36 (by decide) ⟨fun c1 => ?_, fun c1 => ?_⟩
  · have h := h.1 c1
    exact nE_vret dX7_run_68 rfl h
  · have h := h.2 c1
    refine nE_iload dX7_run_39 rfl ?_
    refine nE_bipush (v := 9) dX7_run_41 (by decide) ?_
    refine nE_icmp_ge (tgt := 68) dX7_run_43 (by decide) ⟨fun c2 => ?_, fun c2 => ?_⟩
    · have h := h.1 c2
      exact nE_vret dX7_run_68 rfl h
    · have h := h.2 c2
      refine nE_aload_n dX7_run_46 rfl rfl ?_
      refine nE_aload_n dX7_run_47 rfl rfl ?_
      refine nE_aload_n dX7_run_48 rfl rfl ?_
      refine nE_aload_n dX7_run_49 rfl rfl ?_
      refine nE_getC fl_X7_21 sC_12 rfl dX7_run_50 ?_
      refine nE_iload dX7_run_53 rfl ?_
      obtain ⟨g3, h⟩ := h
      refine nG_iald (j := x5.toNatClampNeg) sC_16 rfl dX7_run_55 ⟨g3, ?_⟩
      refine nE_iload_n dX7_run_56 rfl rfl ?_
      refine nE_iload dX7_run_57 rfl ?_
      refine nE_callV (As := [.ref o1, .ref o2, .int (σ.2.1 16 x5.toNatClampNeg), .int x3, .int x4]) yf_X7_goRound ⟨by decide, by decide⟩ rfl rfl sC_12 rfl vl_X7_38 dX7_run_59 rfl rfl (Nat.le_of_ble_eq_true rfl) (Nat.le_of_ble_eq_true rfl) (nE_mono (fun z6 τ4 h => ?_) h)
      obtain ⟨rfl, h⟩ := h
      refine nE_iinc (v := x5 + 1) dX7_run_62 rfl rfl (by decide) rfl ?_
      refine nE_goto (tgt := 30) dX7_run_65 (by decide) ?_
      exact h
set_option maxRecDepth 20000 in
theorem sg_X7_arrival_0 {o1 : Nat} (ho1 : isP o1) (x2 : Int32) (x3 : Int32) {σ : nh_S} {Q : Option Value → nh_S → Prop} (h : (vp_in x2 9) ∧ (¬ (σ.2.1 14 x2.toNatClampNeg = (-1)) → ((vp_in (σ.2.1 15 x2.toNatClampNeg) 9) ∧ (vp_in x3 9) ∧ Q (some (.int ((σ.2.1 14 x2.toNatClampNeg) + (σ.2.1 (o1 + 9 + (σ.2.1 15 x2.toNatClampNeg).toNatClampNeg) x3.toNatClampNeg)))) σ)) ∧ (σ.2.1 14 x2.toNatClampNeg = (-1) → (Q (some (.int (-1))) σ))) : nh_E kX7_arrival 0 [some (.ref 12), some (.ref o1), some (.int x2), some (.int x3)] [] σ Q := by
  refine nE_aload_n dX7_arrival_0 rfl rfl ?_
  refine nE_getC fl_X7_15 sC_12 rfl dX7_arrival_1 ?_
  refine nE_iload_n dX7_arrival_4 rfl rfl ?_
  obtain ⟨g1, h⟩ := h
  refine nG_iald (j := x2.toNatClampNeg) sC_14 rfl dX7_arrival_5 ⟨g1, ?_⟩
  refine nE_iconst (v := (-1)) dX7_arrival_6 (by decide) ?_
  refine nE_icmp_ne (tgt := 12) dX7_arrival_7 (by decide) ⟨fun c2 => ?_, fun c2 => ?_⟩
  · have h := h.1 c2
    refine nE_aload_n dX7_arrival_12 rfl rfl ?_
    refine nE_getC fl_X7_15 sC_12 rfl dX7_arrival_13 ?_
    refine nE_iload_n dX7_arrival_16 rfl rfl ?_
    refine nG_iald (j := x2.toNatClampNeg) sC_14 rfl dX7_arrival_17 ⟨g1, ?_⟩
    refine nE_aload_n dX7_arrival_18 rfl rfl ?_
    refine nE_getC fl_X7_42 (sP_0 ho1) rfl dX7_arrival_19 ?_
    refine nE_aload_n dX7_arrival_22 rfl rfl ?_
    refine nE_getC fl_X7_18 sC_12 rfl dX7_arrival_23 ?_
    refine nE_iload_n dX7_arrival_26 rfl rfl ?_
    refine nG_iald (j := x2.toNatClampNeg) sC_15 rfl dX7_arrival_27 ⟨g1, ?_⟩
    obtain ⟨g3, h⟩ := h
    refine nG_aald (j := (σ.2.1 15 x2.toNatClampNeg).toNatClampNeg) (sP_8 ho1) rfl dX7_arrival_28 ⟨g3, ?_⟩
    refine nE_iload_n dX7_arrival_29 rfl rfl ?_
    obtain ⟨g4, h⟩ := h
    refine nG_iald (j := x3.toNatClampNeg) (sP_r8 ho1 g3) rfl dX7_arrival_30 ⟨g4, ?_⟩
    refine nE_iadd dX7_arrival_31 ?_
    exact nE_iret dX7_arrival_32 rfl h
  · have h := h.2 c2
    refine nE_iconst (v := (-1)) dX7_arrival_10 (by decide) ?_
    exact nE_iret dX7_arrival_11 rfl h
set_option maxRecDepth 20000 in
theorem sg_X7_rouse_0 (x1 : Int32) (x2 : Int32) {σ : nh_S} {Q : Option Value → nh_S → Prop} (h : (σ.1 12 4 < 9 → ((vp_in x1 9) ∧ (vp_in (σ.1 12 4) 9) ∧ Q none (nh_si (nh_wa (nh_wa (nh_wa (nh_wa σ 13 x1.toNatClampNeg x2) 14 x1.toNatClampNeg x2) 15 x1.toNatClampNeg x1) 16 ((σ.1 12 4).toNatClampNeg) x1) 12 4 ((σ.1 12 4) + 1)))) ∧ (¬ (σ.1 12 4 < 9) → (Q none σ))) : nh_E kX7_rouse 0 [some (.ref 12), some (.int x1), some (.int x2)] [] σ Q := by
  refine nE_aload_n dX7_rouse_0 rfl rfl ?_
  refine nE_getI fl_X7_30 sC_12 rfl dX7_rouse_1 ?_
  refine nE_bipush (v := 9) dX7_rouse_4 (by decide) ?_
  refine nE_icmp_lt (tgt := 10) dX7_rouse_6 (by decide) ⟨fun c1 => ?_, fun c1 => ?_⟩
  · have h := h.1 c1
    refine nE_aload_n dX7_rouse_10 rfl rfl ?_
    refine nE_getC fl_X7_9 sC_12 rfl dX7_rouse_11 ?_
    refine nE_iload_n dX7_rouse_14 rfl rfl ?_
    refine nE_iload_n dX7_rouse_15 rfl rfl ?_
    obtain ⟨g2, h⟩ := h
    refine nG_iast (j := x1.toNatClampNeg) sC_13 rfl dX7_rouse_16 ⟨g2, ?_⟩
    refine nE_aload_n dX7_rouse_17 rfl rfl ?_
    refine nE_getC fl_X7_15 sC_12 rfl dX7_rouse_18 ?_
    refine nE_iload_n dX7_rouse_21 rfl rfl ?_
    refine nE_iload_n dX7_rouse_22 rfl rfl ?_
    refine nG_iast (j := x1.toNatClampNeg) sC_14 rfl dX7_rouse_23 ⟨g2, ?_⟩
    refine nE_aload_n dX7_rouse_24 rfl rfl ?_
    refine nE_getC fl_X7_18 sC_12 rfl dX7_rouse_25 ?_
    refine nE_iload_n dX7_rouse_28 rfl rfl ?_
    refine nE_iload_n dX7_rouse_29 rfl rfl ?_
    refine nG_iast (j := x1.toNatClampNeg) sC_15 rfl dX7_rouse_30 ⟨g2, ?_⟩
    refine nE_aload_n dX7_rouse_31 rfl rfl ?_
    refine nE_getC fl_X7_21 sC_12 rfl dX7_rouse_32 ?_
    refine nE_aload_n dX7_rouse_35 rfl rfl ?_
    refine nE_getI fl_X7_30 sC_12 rfl dX7_rouse_36 ?_
    refine nE_iload_n dX7_rouse_39 rfl rfl ?_
    obtain ⟨g3, h⟩ := h
    refine nG_iast (j := (σ.1 12 4).toNatClampNeg) sC_16 rfl dX7_rouse_40 ⟨g3, ?_⟩
    refine nE_aload_n dX7_rouse_41 rfl rfl ?_
    refine nE_dup dX7_rouse_42 rfl ?_
    refine nE_getI fl_X7_30 sC_12 rfl dX7_rouse_43 ?_
    refine nE_iconst (v := 1) dX7_rouse_46 (by decide) ?_
    refine nE_iadd dX7_rouse_47 ?_
    refine nE_putI fl_X7_30 sC_12 rfl ⟨rfl, rfl⟩ dX7_rouse_48 ?_
    exact nE_vret dX7_rouse_51 rfl h
  · have h := h.2 c1
    exact nE_vret dX7_rouse_9 rfl h
set_option maxRecDepth 20000 in
theorem sg_X7_goRound_0 {o1 : Nat} (ho1 : isP o1) {o2 : Nat} (ho2 : isL o2) (x3 : Int32) (x4 : Int32) (x5 : Int32) {σ : nh_S} {Q : Option Value → nh_S → Prop} (h : (vp_in x3 9) ∧ nh_E kX7_goRound 17 [some (.ref 12), some (.ref o1), some (.ref o2), some (.int x3), some (.int x4), some (.int x5), some (.int x3), some (.int (σ.2.1 13 x3.toNatClampNeg)), some (.int 0), some (.int 0), none] [] σ Q) : nh_E kX7_goRound 0 [some (.ref 12), some (.ref o1), some (.ref o2), some (.int x3), some (.int x4), some (.int x5), none, none, none, none, none] [] σ Q := by
  refine nE_iload_n dX7_goRound_0 rfl rfl ?_
  refine nE_istore dX7_goRound_1 rfl (by decide) ?_
  refine nE_aload_n dX7_goRound_3 rfl rfl ?_
  refine nE_getC fl_X7_9 sC_12 rfl dX7_goRound_4 ?_
  refine nE_iload_n dX7_goRound_7 rfl rfl ?_
  obtain ⟨g1, h⟩ := h
  refine nG_iald (j := x3.toNatClampNeg) sC_13 rfl dX7_goRound_8 ⟨g1, ?_⟩
  refine nE_istore dX7_goRound_9 rfl (by decide) ?_
  refine nE_iconst (v := 0) dX7_goRound_11 (by decide) ?_
  refine nE_istore dX7_goRound_12 rfl (by decide) ?_
  refine nE_iconst (v := 0) dX7_goRound_14 (by decide) ?_
  refine nE_istore dX7_goRound_15 rfl (by decide) ?_
  exact h
set_option maxRecDepth 20000 in
theorem sg_X7_goRound_17 {o1 : Nat} (ho1 : isP o1) {o2 : Nat} (ho2 : isL o2) (x3 : Int32) (x4 : Int32) (x5 : Int32) (x6 : Int32) (x7 : Int32) (x8 : Int32) (x9 : Int32) {σ : nh_S} {Q : Option Value → nh_S → Prop} (h : (σ.1 o2 0 ≤ x9 → (nh_E kX7_goRound 138 [some (.ref 12), some (.ref o1), none, none, none, none, some (.int x6), some (.int x7), some (.int x8), some (.int 0), none] [] σ Q)) ∧ (¬ (σ.1 o2 0 ≤ x9) → ((vp_in x9 20) ∧ (¬ (σ.2.1 (o2 + 1) x9.toNatClampNeg = x3) → (nh_E kX7_goRound 17 [some (.ref 12), some (.ref o1), some (.ref o2), some (.int x3), some (.int x4), some (.int x5), some (.int x6), some (.int x7), some (.int x8), some (.int (x9 + 1)), none] [] σ Q)) ∧ (σ.2.1 (o2 + 1) x9.toNatClampNeg = x3 → ((vp_in x6 9) ∧ (vp_in (σ.2.1 (o2 + 2) x9.toNatClampNeg) 9) ∧ (σ.2.1 (o2 + 2) x9.toNatClampNeg = x4 → ((σ.2.1 (o2 + 2) x9.toNatClampNeg = x4 → (nh_E kX7_goRound 17 [some (.ref 12), some (.ref o1), some (.ref o2), some (.int x3), some (.int x4), some (.int x5), some (.int (σ.2.1 (o2 + 2) x9.toNatClampNeg)), some (.int (x7 + (σ.2.1 (o1 + 9 + x6.toNatClampNeg) ((σ.2.1 (o2 + 2) x9.toNatClampNeg).toNatClampNeg)))), some (.int x8), some (.int (x9 + 1)), none] [] σ Q)) ∧ (¬ (σ.2.1 (o2 + 2) x9.toNatClampNeg = x4) → (nh_E kX7_rouse 0 [some (.ref 12), some (.int (σ.2.1 (o2 + 2) x9.toNatClampNeg)), some (.int ((x7 + (σ.2.1 (o1 + 9 + x6.toNatClampNeg) ((σ.2.1 (o2 + 2) x9.toNatClampNeg).toNatClampNeg))) + (σ.2.1 (o1 + 1) ((σ.2.1 (o2 + 2) x9.toNatClampNeg).toNatClampNeg))))] [] σ (nh_qv fun τ8 => nh_E kX7_goRound 17 [some (.ref 12), some (.ref o1), some (.ref o2), some (.int x3), some (.int x4), some (.int x5), some (.int (σ.2.1 (o2 + 2) x9.toNatClampNeg)), some (.int (x7 + (σ.2.1 (o1 + 9 + x6.toNatClampNeg) ((σ.2.1 (o2 + 2) x9.toNatClampNeg).toNatClampNeg)))), some (.int x8), some (.int (x9 + 1)), none] [] τ8 Q))))) ∧ (¬ (σ.2.1 (o2 + 2) x9.toNatClampNeg = x4) → ((¬ (nh_hs x5 (σ.2.1 (o2 + 2) x9.toNatClampNeg)) → ((σ.2.1 (o2 + 2) x9.toNatClampNeg = x4 → (nh_E kX7_goRound 17 [some (.ref 12), some (.ref o1), some (.ref o2), some (.int x3), some (.int x4), some (.int x5), some (.int (σ.2.1 (o2 + 2) x9.toNatClampNeg)), some (.int (x7 + (σ.2.1 (o1 + 9 + x6.toNatClampNeg) ((σ.2.1 (o2 + 2) x9.toNatClampNeg).toNatClampNeg)))), some (.int x8), some (.int (x9 + 1)), none] [] σ Q)) ∧ (¬ (σ.2.1 (o2 + 2) x9.toNatClampNeg = x4) → (nh_E kX7_rouse 0 [some (.ref 12), some (.int (σ.2.1 (o2 + 2) x9.toNatClampNeg)), some (.int ((x7 + (σ.2.1 (o1 + 9 + x6.toNatClampNeg) ((σ.2.1 (o2 + 2) x9.toNatClampNeg).toNatClampNeg))) + (σ.2.1 (o1 + 1) ((σ.2.1 (o2 + 2) x9.toNatClampNeg).toNatClampNeg))))] [] σ (nh_qv fun τ13 => nh_E kX7_goRound 17 [some (.ref 12), some (.ref o1), some (.ref o2), some (.int x3), some (.int x4), some (.int x5), some (.int (σ.2.1 (o2 + 2) x9.toNatClampNeg)), some (.int (x7 + (σ.2.1 (o1 + 9 + x6.toNatClampNeg) ((σ.2.1 (o2 + 2) x9.toNatClampNeg).toNatClampNeg)))), some (.int x8), some (.int (x9 + 1)), none] [] τ13 Q))))) ∧ (nh_hs x5 (σ.2.1 (o2 + 2) x9.toNatClampNeg) → (nh_E kX7_goRound 17 [some (.ref 12), some (.ref o1), some (.ref o2), some (.int x3), some (.int x4), some (.int x5), some (.int (σ.2.1 (o2 + 2) x9.toNatClampNeg)), some (.int ((x7 + (σ.2.1 (o1 + 9 + x6.toNatClampNeg) ((σ.2.1 (o2 + 2) x9.toNatClampNeg).toNatClampNeg))) + (σ.2.1 (o1 + 2) ((σ.2.1 (o2 + 2) x9.toNatClampNeg).toNatClampNeg)))), some (.int (x8 ||| (1 <<< ((σ.2.1 (o2 + 2) x9.toNatClampNeg) &&& 31)))), some (.int (x9 + 1)), none] [] σ Q))))))))) : nh_E kX7_goRound 17 [some (.ref 12), some (.ref o1), some (.ref o2), some (.int x3), some (.int x4), some (.int x5), some (.int x6), some (.int x7), some (.int x8), some (.int x9), none] [] σ Q := by
  refine nE_iload dX7_goRound_17 rfl ?_
  refine nE_aload_n dX7_goRound_19 rfl rfl ?_
  refine nE_getI fl_X7_48 (sL_0 ho2) rfl dX7_goRound_20 ?_
  refine nE_icmp_ge (tgt := 135) dX7_goRound_23 (by decide) ⟨fun c1 => ?_, fun c1 => ?_⟩
  · have h := h.1 c1
    refine nE_iconst (v := 0) dX7_goRound_135 (by decide) ?_
    refine nE_istore dX7_goRound_136 rfl (by decide) ?_
    refine nE_weak 2 ?_
    refine nE_weak 3 ?_
    refine nE_weak 4 ?_
    refine nE_weak 5 ?_
    exact h
  · have h := h.2 c1
    refine nE_aload_n dX7_goRound_26 rfl rfl ?_
    refine nE_getC fl_X7_51 (sL_0 ho2) rfl dX7_goRound_27 ?_
    refine nE_iload dX7_goRound_30 rfl ?_
    obtain ⟨g2, h⟩ := h
    refine nG_iald (j := x9.toNatClampNeg) (sL_1 ho2) rfl dX7_goRound_32 ⟨g2, ?_⟩
    refine nE_iload_n dX7_goRound_33 rfl rfl ?_
    refine nE_icmp_ne (tgt := 129) dX7_goRound_34 (by decide) ⟨fun c3 => ?_, fun c3 => ?_⟩
    · have h := h.1 c3
      refine nE_iinc (v := x9 + 1) dX7_goRound_129 rfl rfl (by decide) rfl ?_
      refine nE_goto (tgt := 17) dX7_goRound_132 (by decide) ?_
      exact h
    · have h := h.2 c3
      refine nE_aload_n dX7_goRound_37 rfl rfl ?_
      refine nE_getC fl_X7_54 (sL_0 ho2) rfl dX7_goRound_38 ?_
      refine nE_iload dX7_goRound_41 rfl ?_
      refine nG_iald (j := x9.toNatClampNeg) (sL_2 ho2) rfl dX7_goRound_43 ⟨g2, ?_⟩
      refine nE_istore dX7_goRound_44 rfl (by decide) ?_
      refine nE_iload dX7_goRound_46 rfl ?_
      refine nE_aload_n dX7_goRound_48 rfl rfl ?_
      refine nE_getC fl_X7_42 (sP_0 ho1) rfl dX7_goRound_49 ?_
      refine nE_iload dX7_goRound_52 rfl ?_
      obtain ⟨g4, h⟩ := h
      refine nG_aald (j := x6.toNatClampNeg) (sP_8 ho1) rfl dX7_goRound_54 ⟨g4, ?_⟩
      refine nE_iload dX7_goRound_55 rfl ?_
      obtain ⟨g5, h⟩ := h
      refine nG_iald (j := (σ.2.1 (o2 + 2) x9.toNatClampNeg).toNatClampNeg) (sP_r8 ho1 g4) rfl dX7_goRound_57 ⟨g5, ?_⟩
      refine nE_iadd dX7_goRound_58 ?_
      refine nE_istore dX7_goRound_59 rfl (by decide) ?_
      refine nE_iload dX7_goRound_61 rfl ?_
      refine nE_istore dX7_goRound_63 rfl (by decide) ?_
      refine nE_iload dX7_goRound_65 rfl ?_
      refine nE_iload dX7_goRound_67 rfl ?_
      refine nE_icmp_eq (tgt := 106) dX7_goRound_69 (by decide) ⟨fun c6 => ?_, fun c6 => ?_⟩
      · have h := h.1 c6
        refine nE_iload dX7_goRound_106 rfl ?_
        refine nE_iload dX7_goRound_108 rfl ?_
        refine nE_icmp_eq (tgt := 129) dX7_goRound_110 (by decide) ⟨fun c7 => ?_, fun c7 => ?_⟩
        · have h := h.1 c7
          refine nE_iinc (v := x9 + 1) dX7_goRound_129 rfl rfl (by decide) rfl ?_
          refine nE_goto (tgt := 17) dX7_goRound_132 (by decide) ?_
          refine nE_weak 10 ?_
          exact h
        · have h := h.2 c7
          refine nE_aload_n dX7_goRound_113 rfl rfl ?_
          refine nE_iload dX7_goRound_114 rfl ?_
          refine nE_iload dX7_goRound_116 rfl ?_
          refine nE_aload_n dX7_goRound_118 rfl rfl ?_
          refine nE_getC fl_X7_64 (sP_0 ho1) rfl dX7_goRound_119 ?_
          refine nE_iload dX7_goRound_122 rfl ?_
          refine nG_iald (j := (σ.2.1 (o2 + 2) x9.toNatClampNeg).toNatClampNeg) (sP_1 ho1) rfl dX7_goRound_124 ⟨g5, ?_⟩
          refine nE_iadd dX7_goRound_125 ?_
          refine nE_callV (As := [.int (σ.2.1 (o2 + 2) x9.toNatClampNeg), .int ((x7 + (σ.2.1 (o1 + 9 + x6.toNatClampNeg) ((σ.2.1 (o2 + 2) x9.toNatClampNeg).toNatClampNeg))) + (σ.2.1 (o1 + 1) ((σ.2.1 (o2 + 2) x9.toNatClampNeg).toNatClampNeg)))]) yf_X7_rouse ⟨by decide, by decide⟩ rfl rfl sC_12 rfl vl_X7_34 dX7_goRound_126 rfl rfl (Nat.le_of_ble_eq_true rfl) (Nat.le_of_ble_eq_true rfl) (nE_mono (fun z10 τ8 h => ?_) h)
          obtain ⟨rfl, h⟩ := h
          refine nE_iinc (v := x9 + 1) dX7_goRound_129 rfl rfl (by decide) rfl ?_
          refine nE_goto (tgt := 17) dX7_goRound_132 (by decide) ?_
          refine nE_weak 10 ?_
          exact h
      · have h := h.2 c6
        refine nE_iload dX7_goRound_72 rfl ?_
        refine nE_iload dX7_goRound_74 rfl ?_
        refine nE_callN (As := [.int x5, .int (σ.2.1 (o2 + 2) x9.toNatClampNeg)]) yf_X8_has ⟨by decide, by decide⟩ rfl nl_X7_57 dX7_goRound_76 rfl rfl (Nat.le_of_ble_eq_true rfl) (Nat.le_of_ble_eq_true rfl) (p_X8_has _ _ ?_)
        refine nE_ifb_eq (tgt := 106) dX7_goRound_79 (by decide) ⟨fun c11 => ?_, fun c11 => ?_⟩
        · have h := h.1 c11
          refine nE_iload dX7_goRound_106 rfl ?_
          refine nE_iload dX7_goRound_108 rfl ?_
          refine nE_icmp_eq (tgt := 129) dX7_goRound_110 (by decide) ⟨fun c12 => ?_, fun c12 => ?_⟩
          · have h := h.1 c12
            refine nE_iinc (v := x9 + 1) dX7_goRound_129 rfl rfl (by decide) rfl ?_
            refine nE_goto (tgt := 17) dX7_goRound_132 (by decide) ?_
            refine nE_weak 10 ?_
            exact h
          · have h := h.2 c12
            refine nE_aload_n dX7_goRound_113 rfl rfl ?_
            refine nE_iload dX7_goRound_114 rfl ?_
            refine nE_iload dX7_goRound_116 rfl ?_
            refine nE_aload_n dX7_goRound_118 rfl rfl ?_
            refine nE_getC fl_X7_64 (sP_0 ho1) rfl dX7_goRound_119 ?_
            refine nE_iload dX7_goRound_122 rfl ?_
            refine nG_iald (j := (σ.2.1 (o2 + 2) x9.toNatClampNeg).toNatClampNeg) (sP_1 ho1) rfl dX7_goRound_124 ⟨g5, ?_⟩
            refine nE_iadd dX7_goRound_125 ?_
            refine nE_callV (As := [.int (σ.2.1 (o2 + 2) x9.toNatClampNeg), .int ((x7 + (σ.2.1 (o1 + 9 + x6.toNatClampNeg) ((σ.2.1 (o2 + 2) x9.toNatClampNeg).toNatClampNeg))) + (σ.2.1 (o1 + 1) ((σ.2.1 (o2 + 2) x9.toNatClampNeg).toNatClampNeg)))]) yf_X7_rouse ⟨by decide, by decide⟩ rfl rfl sC_12 rfl vl_X7_34 dX7_goRound_126 rfl rfl (Nat.le_of_ble_eq_true rfl) (Nat.le_of_ble_eq_true rfl) (nE_mono (fun z15 τ13 h => ?_) h)
            obtain ⟨rfl, h⟩ := h
            refine nE_iinc (v := x9 + 1) dX7_goRound_129 rfl rfl (by decide) rfl ?_
            refine nE_goto (tgt := 17) dX7_goRound_132 (by decide) ?_
            refine nE_weak 10 ?_
            exact h
        · have h := h.2 c11
          refine nE_iload dX7_goRound_82 rfl ?_
          refine nE_aload_n dX7_goRound_84 rfl rfl ?_
          refine nE_getC fl_X7_61 (sP_0 ho1) rfl dX7_goRound_85 ?_
          refine nE_iload dX7_goRound_88 rfl ?_
          refine nG_iald (j := (σ.2.1 (o2 + 2) x9.toNatClampNeg).toNatClampNeg) (sP_2 ho1) rfl dX7_goRound_90 ⟨g5, ?_⟩
          refine nE_iadd dX7_goRound_91 ?_
          refine nE_istore dX7_goRound_92 rfl (by decide) ?_
          refine nE_iload dX7_goRound_94 rfl ?_
          refine nE_iconst (v := 1) dX7_goRound_96 (by decide) ?_
          refine nE_iload dX7_goRound_97 rfl ?_
          refine nE_ishl dX7_goRound_99 ?_
          refine nE_ior dX7_goRound_100 ?_
          refine nE_istore dX7_goRound_101 rfl (by decide) ?_
          refine nE_goto (tgt := 129) dX7_goRound_103 (by decide) ?_
          refine nE_iinc (v := x9 + 1) dX7_goRound_129 rfl rfl (by decide) rfl ?_
          refine nE_goto (tgt := 17) dX7_goRound_132 (by decide) ?_
          refine nE_weak 10 ?_
          exact h
set_option maxRecDepth 20000 in
theorem sg_X7_goRound_138 {o1 : Nat} (ho1 : isP o1) {o2 : Nat} (ho2 : isL o2) (x6 : Int32) (x7 : Int32) (x8 : Int32) (x9 : Int32) {σ : nh_S} {Q : Option Value → nh_S → Prop} (h : (σ.1 o1 0 ≤ x9 → (Q none σ)) ∧ (¬ (σ.1 o1 0 ≤ x9) → ((¬ (nh_hs x8 x9) → (nh_E kX7_goRound 138 [some (.ref 12), some (.ref o1), none, none, none, none, some (.int x6), some (.int x7), some (.int x8), some (.int (x9 + 1)), none] [] σ Q)) ∧ (nh_hs x8 x9 → ((vp_in x9 9) ∧ nh_E kX7_goRound 138 [some (.ref 12), some (.ref o1), none, none, none, none, some (.int x6), some (.int x7), some (.int x8), some (.int (x9 + 1)), none] [] (nh_wa (nh_wa σ 14 x9.toNatClampNeg x7) 15 x9.toNatClampNeg x6) Q))))) : nh_E kX7_goRound 138 [some (.ref 12), some (.ref o1), none, none, none, none, some (.int x6), some (.int x7), some (.int x8), some (.int x9), none] [] σ Q := by
  refine nE_iload dX7_goRound_138 rfl ?_
  refine nE_aload_n dX7_goRound_140 rfl rfl ?_
  refine nE_getI fl_X7_67 (sP_0 ho1) rfl dX7_goRound_141 ?_
  refine nE_icmp_ge (tgt := 181) dX7_goRound_144 (by decide) ⟨fun c1 => ?_, fun c1 => ?_⟩
  · have h := h.1 c1
    exact nE_vret dX7_goRound_181 rfl h
  · have h := h.2 c1
    refine nE_iload dX7_goRound_147 rfl ?_
    refine nE_iload dX7_goRound_149 rfl ?_
    refine nE_callN (As := [.int x8, .int x9]) yf_X8_has ⟨by decide, by decide⟩ rfl nl_X7_57 dX7_goRound_151 rfl rfl (Nat.le_of_ble_eq_true rfl) (Nat.le_of_ble_eq_true rfl) (p_X8_has _ _ ?_)
    refine nE_ifb_eq (tgt := 175) dX7_goRound_154 (by decide) ⟨fun c2 => ?_, fun c2 => ?_⟩
    · have h := h.1 c2
      refine nE_iinc (v := x9 + 1) dX7_goRound_175 rfl rfl (by decide) rfl ?_
      refine nE_goto (tgt := 138) dX7_goRound_178 (by decide) ?_
      exact h
    · have h := h.2 c2
      refine nE_aload_n dX7_goRound_157 rfl rfl ?_
      refine nE_getC fl_X7_15 sC_12 rfl dX7_goRound_158 ?_
      refine nE_iload dX7_goRound_161 rfl ?_
      refine nE_iload dX7_goRound_163 rfl ?_
      obtain ⟨g3, h⟩ := h
      refine nG_iast (j := x9.toNatClampNeg) sC_14 rfl dX7_goRound_165 ⟨g3, ?_⟩
      refine nE_aload_n dX7_goRound_166 rfl rfl ?_
      refine nE_getC fl_X7_18 sC_12 rfl dX7_goRound_167 ?_
      refine nE_iload dX7_goRound_170 rfl ?_
      refine nE_iload dX7_goRound_172 rfl ?_
      refine nG_iast (j := x9.toNatClampNeg) sC_15 rfl dX7_goRound_174 ⟨g3, ?_⟩
      refine nE_iinc (v := x9 + 1) dX7_goRound_175 rfl rfl (by decide) rfl ?_
      refine nE_goto (tgt := 138) dX7_goRound_178 (by decide) ?_
      exact h
set_option maxRecDepth 20000 in
theorem sg_X8_feed_0 (x1 : Int32) (x2 : Int64) {σ : nh_S} {Q : Option Value → nh_S → Prop} (h : (x1 < 1 → (Q (some (.int (-1000002))) σ)) ∧ (¬ (x1 < 1) → ((x1 ≤ 8 → (((σ.1 1 1) + x1 ≤ 600 → (nh_E kX6_append 0 [some (.ref 1), some (.int x1), some (.long x2), none, none] [] σ (nh_qv fun τ4 => Q (some (.int (τ4.1 1 1))) τ4))) ∧ (¬ ((σ.1 1 1) + x1 ≤ 600) → (Q (some (.int (-1000004))) σ)))) ∧ (¬ (x1 ≤ 8) → (Q (some (.int (-1000002))) σ))))) : nh_E kX8_feed 0 [some (.ref 0), some (.int x1), some (.long x2), none] [] σ Q := by
  refine nE_iload_n dX8_feed_0 rfl rfl ?_
  refine nE_iconst (v := 1) dX8_feed_1 (by decide) ?_
  refine nE_icmp_lt (tgt := 11) dX8_feed_2 (by decide) ⟨fun c1 => ?_, fun c1 => ?_⟩
  · have h := h.1 c1
    refine nE_ldc kc_X8_93 dX8_feed_11 ?_
    exact nE_iret dX8_feed_13 rfl h
  · have h := h.2 c1
    refine nE_iload_n dX8_feed_5 rfl rfl ?_
    refine nE_bipush (v := 8) dX8_feed_6 (by decide) ?_
    refine nE_icmp_le (tgt := 14) dX8_feed_8 (by decide) ⟨fun c2 => ?_, fun c2 => ?_⟩
    · have h := h.1 c2
      refine nE_aload_n dX8_feed_14 rfl rfl ?_
      refine nE_getC fl_X8_12 sC_0 rfl dX8_feed_15 ?_
      refine nE_getI fl_X8_94 sC_1 rfl dX8_feed_18 ?_
      refine nE_iload_n dX8_feed_21 rfl rfl ?_
      refine nE_iadd dX8_feed_22 ?_
      refine nE_sipush (v := 600) dX8_feed_23 (by decide) ?_
      refine nE_icmp_le (tgt := 32) dX8_feed_26 (by decide) ⟨fun c3 => ?_, fun c3 => ?_⟩
      · have h := h.1 c3
        refine nE_aload_n dX8_feed_32 rfl rfl ?_
        refine nE_getC fl_X8_12 sC_0 rfl dX8_feed_33 ?_
        refine nE_iload_n dX8_feed_36 rfl rfl ?_
        refine nE_lload_n dX8_feed_37 rfl rfl ?_
        refine nE_callV (As := [.int x1, .long x2]) yf_X6_append ⟨by decide, by decide⟩ rfl rfl sC_1 rfl vl_X8_99 dX8_feed_38 rfl rfl (Nat.le_of_ble_eq_true rfl) (Nat.le_of_ble_eq_true rfl) (nE_mono (fun z6 τ4 h => ?_) h)
        obtain ⟨rfl, h⟩ := h
        refine nE_aload_n dX8_feed_41 rfl rfl ?_
        refine nE_getC fl_X8_12 sC_0 rfl dX8_feed_42 ?_
        refine nE_getI fl_X8_94 sC_1 rfl dX8_feed_45 ?_
        exact nE_iret dX8_feed_48 rfl h
      · have h := h.2 c3
        refine nE_ldc kc_X8_98 dX8_feed_29 ?_
        exact nE_iret dX8_feed_31 rfl h
    · have h := h.2 c2
      refine nE_ldc kc_X8_93 dX8_feed_11 ?_
      exact nE_iret dX8_feed_13 rfl h
set_option maxRecDepth 20000 in
theorem sg_X8_parish_0  {σ : nh_S} {Q : Option Value → nh_S → Prop} (h : nh_E kX6_begin 0 [some (.ref 1)] [] σ (nh_qv fun τ1 => (isP (τ1.2.2 0 12)) ∧ nh_E kX3_learn 0 [some (.ref (τ1.2.2 0 12)), some (.ref 1), none] [] τ1 (nh_qv fun τ5 => (τ5.1 1 3 = 0 → ((isP (τ5.2.2 0 11)) ∧ (isP (τ5.2.2 0 12)) ∧ nh_E kX8_startAnew 0 [some (.ref 0)] [] (nh_sr (nh_sr (nh_si τ5 1 1 0) 0 11 (τ5.2.2 0 12)) 0 12 (τ5.2.2 0 11)) (nh_qv fun τ11 => (isP (τ11.2.2 0 11)) ∧ Q (some (.int (τ11.1 (τ11.2.2 0 11) 0))) τ11))) ∧ (¬ (τ5.1 1 3 = 0) → (Q (some (.int ((-10) - (τ5.1 1 3)))) (nh_si τ5 1 1 0)))))) : nh_E kX8_parish 0 [some (.ref 0), none] [] σ Q := by
  refine nE_aload_n dX8_parish_0 rfl rfl ?_
  refine nE_getC fl_X8_12 sC_0 rfl dX8_parish_1 ?_
  refine nE_callV (As := []) yf_X6_begin ⟨by decide, by decide⟩ rfl rfl sC_1 rfl vl_X8_103 dX8_parish_4 rfl rfl (Nat.le_of_ble_eq_true rfl) (Nat.le_of_ble_eq_true rfl) (nE_mono (fun z3 τ1 h => ?_) h)
  obtain ⟨rfl, h⟩ := h
  refine nE_aload_n dX8_parish_7 rfl rfl ?_
  obtain ⟨g4, h⟩ := h
  refine nE_getR fl_X8_77 sC_0 rfl dX8_parish_8 ?_
  refine nE_aload_n dX8_parish_11 rfl rfl ?_
  refine nE_getC fl_X8_12 sC_0 rfl dX8_parish_12 ?_
  refine nE_callV (As := [.ref 1]) yf_X3_learn ⟨by decide, by decide⟩ rfl rfl (sP_0 g4) rfl vl_X8_106 dX8_parish_15 rfl rfl (Nat.le_of_ble_eq_true rfl) (Nat.le_of_ble_eq_true rfl) (nE_mono (fun z7 τ5 h => ?_) h)
  obtain ⟨rfl, h⟩ := h
  refine nE_aload_n dX8_parish_18 rfl rfl ?_
  refine nE_getC fl_X8_12 sC_0 rfl dX8_parish_19 ?_
  refine nE_iconst (v := 0) dX8_parish_22 (by decide) ?_
  refine nE_putI fl_X8_94 sC_1 rfl ⟨rfl, rfl⟩ dX8_parish_23 ?_
  refine nE_aload_n dX8_parish_26 rfl rfl ?_
  refine nE_getC fl_X8_12 sC_0 rfl dX8_parish_27 ?_
  refine nE_callV (As := []) yf_X6_isSound ⟨by decide, by decide⟩ rfl rfl sC_1 rfl vl_X8_110 dX8_parish_30 rfl rfl (Nat.le_of_ble_eq_true rfl) (Nat.le_of_ble_eq_true rfl) (p_X6_isSound ?_)
  refine nE_ifb_ne (tgt := 47) dX8_parish_33 (by decide) ⟨fun c8 => ?_, fun c8 => ?_⟩
  · have h := h.1 c8
    refine nE_aload_n dX8_parish_47 rfl rfl ?_
    obtain ⟨g9, h⟩ := h
    refine nE_getR fl_X8_73 sC_0 rfl dX8_parish_48 ?_
    refine nE_astore_n dX8_parish_51 rfl rfl (by decide) ?_
    refine nE_aload_n dX8_parish_52 rfl rfl ?_
    refine nE_aload_n dX8_parish_53 rfl rfl ?_
    obtain ⟨g10, h⟩ := h
    refine nE_getR fl_X8_77 sC_0 rfl dX8_parish_54 ?_
    refine nE_putR fl_X8_73 sC_0 rfl (fun _ => ⟨rfl, rfl⟩) dX8_parish_57 ?_
    refine nE_aload_n dX8_parish_60 rfl rfl ?_
    refine nE_aload_n dX8_parish_61 rfl rfl ?_
    refine nE_putR fl_X8_77 sC_0 rfl (fun _ => ⟨rfl, rfl⟩) dX8_parish_62 ?_
    refine nE_aload_n dX8_parish_65 rfl rfl ?_
    refine nE_callV (As := []) yf_X8_startAnew ⟨by decide, by decide⟩ rfl rfl sC_0 rfl vl_X8_90 dX8_parish_66 rfl rfl (Nat.le_of_ble_eq_true rfl) (Nat.le_of_ble_eq_true rfl) (nE_mono (fun z13 τ11 h => ?_) h)
    obtain ⟨rfl, h⟩ := h
    refine nE_aload_n dX8_parish_69 rfl rfl ?_
    obtain ⟨g14, h⟩ := h
    refine nE_getR fl_X8_73 sC_0 rfl dX8_parish_70 ?_
    refine nE_getI fl_X8_117 (sP_0 g14) rfl dX8_parish_73 ?_
    exact nE_iret dX8_parish_76 rfl h
  · have h := h.2 c8
    refine nE_bipush (v := (-10)) dX8_parish_36 (by decide) ?_
    refine nE_aload_n dX8_parish_38 rfl rfl ?_
    refine nE_getC fl_X8_12 sC_0 rfl dX8_parish_39 ?_
    refine nE_getI fl_X8_114 sC_1 rfl dX8_parish_42 ?_
    refine nE_isub dX8_parish_45 ?_
    exact nE_iret dX8_parish_46 rfl h
set_option maxRecDepth 20000 in
theorem sg_X8_plan_0  {σ : nh_S} {Q : Option Value → nh_S → Prop} (h : (σ.1 1 1 ≤ 200 → (nh_E kX6_begin 0 [some (.ref 1)] [] σ (nh_qv fun τ2 => (isL (τ2.2.2 0 14)) ∧ (isP (τ2.2.2 0 11)) ∧ nh_E kX4_learn 0 [some (.ref (τ2.2.2 0 14)), some (.ref 1), some (.int (τ2.1 (τ2.2.2 0 11) 0)), none] [] τ2 (nh_qv fun τ7 => (τ7.1 1 3 = 0 → ((isL (τ7.2.2 0 13)) ∧ (isL (τ7.2.2 0 14)) ∧ Q (some (.int (((nh_si τ7 1 1 0)).1 (τ7.2.2 0 14) 0))) (nh_sr (nh_sr (nh_si τ7 1 1 0) 0 13 (τ7.2.2 0 14)) 0 14 (τ7.2.2 0 13)))) ∧ (¬ (τ7.1 1 3 = 0) → (Q (some (.int ((-10) - (τ7.1 1 3)))) (nh_si τ7 1 1 0))))))) ∧ (¬ (σ.1 1 1 ≤ 200) → (Q (some (.int (-1000003))) σ))) : nh_E kX8_plan 0 [some (.ref 0), none] [] σ Q := by
  refine nE_aload_n dX8_plan_0 rfl rfl ?_
  refine nE_getC fl_X8_12 sC_0 rfl dX8_plan_1 ?_
  refine nE_getI fl_X8_94 sC_1 rfl dX8_plan_4 ?_
  refine nE_sipush (v := 200) dX8_plan_7 (by decide) ?_
  refine nE_icmp_le (tgt := 16) dX8_plan_10 (by decide) ⟨fun c1 => ?_, fun c1 => ?_⟩
  · have h := h.1 c1
    refine nE_aload_n dX8_plan_16 rfl rfl ?_
    refine nE_getC fl_X8_12 sC_0 rfl dX8_plan_17 ?_
    refine nE_callV (As := []) yf_X6_begin ⟨by decide, by decide⟩ rfl rfl sC_1 rfl vl_X8_103 dX8_plan_20 rfl rfl (Nat.le_of_ble_eq_true rfl) (Nat.le_of_ble_eq_true rfl) (nE_mono (fun z4 τ2 h => ?_) h)
    obtain ⟨rfl, h⟩ := h
    refine nE_aload_n dX8_plan_23 rfl rfl ?_
    obtain ⟨g5, h⟩ := h
    refine nE_getR fl_X8_87 sC_0 rfl dX8_plan_24 ?_
    refine nE_aload_n dX8_plan_27 rfl rfl ?_
    refine nE_getC fl_X8_12 sC_0 rfl dX8_plan_28 ?_
    refine nE_aload_n dX8_plan_31 rfl rfl ?_
    obtain ⟨g6, h⟩ := h
    refine nE_getR fl_X8_73 sC_0 rfl dX8_plan_32 ?_
    refine nE_getI fl_X8_117 (sP_0 g6) rfl dX8_plan_35 ?_
    refine nE_callV (As := [.ref 1, .int (τ2.1 (τ2.2.2 0 11) 0)]) yf_X4_learn ⟨by decide, by decide⟩ rfl rfl (sL_0 g5) rfl vl_X8_121 dX8_plan_38 rfl rfl (Nat.le_of_ble_eq_true rfl) (Nat.le_of_ble_eq_true rfl) (nE_mono (fun z9 τ7 h => ?_) h)
    obtain ⟨rfl, h⟩ := h
    refine nE_aload_n dX8_plan_41 rfl rfl ?_
    refine nE_getC fl_X8_12 sC_0 rfl dX8_plan_42 ?_
    refine nE_iconst (v := 0) dX8_plan_45 (by decide) ?_
    refine nE_putI fl_X8_94 sC_1 rfl ⟨rfl, rfl⟩ dX8_plan_46 ?_
    refine nE_aload_n dX8_plan_49 rfl rfl ?_
    refine nE_getC fl_X8_12 sC_0 rfl dX8_plan_50 ?_
    refine nE_callV (As := []) yf_X6_isSound ⟨by decide, by decide⟩ rfl rfl sC_1 rfl vl_X8_110 dX8_plan_53 rfl rfl (Nat.le_of_ble_eq_true rfl) (Nat.le_of_ble_eq_true rfl) (p_X6_isSound ?_)
    refine nE_ifb_ne (tgt := 70) dX8_plan_56 (by decide) ⟨fun c10 => ?_, fun c10 => ?_⟩
    · have h := h.1 c10
      refine nE_aload_n dX8_plan_70 rfl rfl ?_
      obtain ⟨g11, h⟩ := h
      refine nE_getR fl_X8_83 sC_0 rfl dX8_plan_71 ?_
      refine nE_astore_n dX8_plan_74 rfl rfl (by decide) ?_
      refine nE_aload_n dX8_plan_75 rfl rfl ?_
      refine nE_aload_n dX8_plan_76 rfl rfl ?_
      obtain ⟨g12, h⟩ := h
      refine nE_getR fl_X8_87 sC_0 rfl dX8_plan_77 ?_
      refine nE_putR fl_X8_83 sC_0 rfl (fun _ => ⟨rfl, rfl⟩) dX8_plan_80 ?_
      refine nE_aload_n dX8_plan_83 rfl rfl ?_
      refine nE_aload_n dX8_plan_84 rfl rfl ?_
      refine nE_putR fl_X8_87 sC_0 rfl (fun _ => ⟨rfl, rfl⟩) dX8_plan_85 ?_
      refine nE_aload_n dX8_plan_88 rfl rfl ?_
      refine nE_getR fl_X8_83 sC_0 rfl dX8_plan_89 ?_
      refine nE_getI fl_X8_124 (sL_0 g12) rfl dX8_plan_92 ?_
      exact nE_iret dX8_plan_95 rfl h
    · have h := h.2 c10
      refine nE_bipush (v := (-10)) dX8_plan_59 (by decide) ?_
      refine nE_aload_n dX8_plan_61 rfl rfl ?_
      refine nE_getC fl_X8_12 sC_0 rfl dX8_plan_62 ?_
      refine nE_getI fl_X8_114 sC_1 rfl dX8_plan_65 ?_
      refine nE_isub dX8_plan_68 ?_
      exact nE_iret dX8_plan_69 rfl h
  · have h := h.2 c1
    refine nE_ldc kc_X8_120 dX8_plan_13 ?_
    exact nE_iret dX8_plan_15 rfl h
set_option maxRecDepth 20000 in
theorem sg_X8_fault_0  {σ : nh_S} {Q : Option Value → nh_S → Prop} (h : Q (some (.int (σ.1 1 4))) σ) : nh_E kX8_fault 0 [some (.ref 0)] [] σ Q := by
  refine nE_aload_n dX8_fault_0 rfl rfl ?_
  refine nE_getC fl_X8_12 sC_0 rfl dX8_fault_1 ?_
  refine nE_getI fl_X8_127 sC_1 rfl dX8_fault_4 ?_
  exact nE_iret dX8_fault_7 rfl h
set_option maxRecDepth 20000 in
theorem sg_X8_told_0 (x1 : Int32) {σ : nh_S} {Q : Option Value → nh_S → Prop} (h : (x1 = 0 → ((isP (σ.2.2 0 11)) ∧ Q (some (.int (σ.1 (σ.2.2 0 11) 0))) σ)) ∧ (x1 = 1 → ((isP (σ.2.2 0 11)) ∧ Q (some (.int (σ.1 (σ.2.2 0 11) 1))) σ)) ∧ (x1 = 2 → ((isL (σ.2.2 0 13)) ∧ Q (some (.int (σ.1 (σ.2.2 0 13) 0))) σ)) ∧ (x1 = 3 → (Q (some (.int (σ.1 1 1))) σ)) ∧ (x1 = 4 → (Q (some (.int (σ.1 3 2))) σ)) ∧ (x1 = 5 → (Q (some (.int (σ.1 0 16))) σ)) ∧ (x1 = 6 → (nh_E kX8_countLogged 0 [some (.ref 0), none, none] [] σ (nh_qi fun r12 τ11 => Q (some (.int r12)) τ11))) ∧ ((¬ x1 = 0 ∧ ¬ x1 = 1 ∧ ¬ x1 = 2 ∧ ¬ x1 = 3 ∧ ¬ x1 = 4 ∧ ¬ x1 = 5 ∧ ¬ x1 = 6) → (Q (some (.int (-1000002))) σ))) : nh_E kX8_told 0 [some (.ref 0), some (.int x1)] [] σ Q := by
  refine nE_iload_n dX8_told_0 rfl rfl ?_
  by_cases c1 : x1 = 0
  · have h := h.1 c1
    refine nE_tabIn (off := 43) (tgt := 44) dX8_told_1 (by rw [c1]; decide) (by rw [c1]; decide) (by rw [c1]; rfl) (by decide) ?_
    refine nE_aload_n dX8_told_44 rfl rfl ?_
    obtain ⟨g2, h⟩ := h
    refine nE_getR fl_X8_73 sC_0 rfl dX8_told_45 ?_
    refine nE_getI fl_X8_117 (sP_0 g2) rfl dX8_told_48 ?_
    exact nE_iret dX8_told_51 rfl h
  replace h := h.2
  by_cases c3 : x1 = 1
  · have h := h.1 c3
    refine nE_tabIn (off := 51) (tgt := 52) dX8_told_1 (by rw [c3]; decide) (by rw [c3]; decide) (by rw [c3]; rfl) (by decide) ?_
    refine nE_aload_n dX8_told_52 rfl rfl ?_
    obtain ⟨g4, h⟩ := h
    refine nE_getR fl_X8_73 sC_0 rfl dX8_told_53 ?_
    refine nE_getI fl_X8_130 (sP_0 g4) rfl dX8_told_56 ?_
    exact nE_iret dX8_told_59 rfl h
  replace h := h.2
  by_cases c5 : x1 = 2
  · have h := h.1 c5
    refine nE_tabIn (off := 59) (tgt := 60) dX8_told_1 (by rw [c5]; decide) (by rw [c5]; decide) (by rw [c5]; rfl) (by decide) ?_
    refine nE_aload_n dX8_told_60 rfl rfl ?_
    obtain ⟨g6, h⟩ := h
    refine nE_getR fl_X8_83 sC_0 rfl dX8_told_61 ?_
    refine nE_getI fl_X8_124 (sL_0 g6) rfl dX8_told_64 ?_
    exact nE_iret dX8_told_67 rfl h
  replace h := h.2
  by_cases c7 : x1 = 3
  · have h := h.1 c7
    refine nE_tabIn (off := 67) (tgt := 68) dX8_told_1 (by rw [c7]; decide) (by rw [c7]; decide) (by rw [c7]; rfl) (by decide) ?_
    refine nE_aload_n dX8_told_68 rfl rfl ?_
    refine nE_getC fl_X8_12 sC_0 rfl dX8_told_69 ?_
    refine nE_getI fl_X8_94 sC_1 rfl dX8_told_72 ?_
    exact nE_iret dX8_told_75 rfl h
  replace h := h.2
  by_cases c8 : x1 = 4
  · have h := h.1 c8
    refine nE_tabIn (off := 75) (tgt := 76) dX8_told_1 (by rw [c8]; decide) (by rw [c8]; decide) (by rw [c8]; rfl) (by decide) ?_
    refine nE_aload_n dX8_told_76 rfl rfl ?_
    refine nE_getC fl_X8_19 sC_0 rfl dX8_told_77 ?_
    refine nE_getI fl_X8_133 (sN_0 isN_3) rfl dX8_told_80 ?_
    exact nE_iret dX8_told_83 rfl h
  replace h := h.2
  by_cases c9 : x1 = 5
  · have h := h.1 c9
    refine nE_tabIn (off := 83) (tgt := 84) dX8_told_1 (by rw [c9]; decide) (by rw [c9]; decide) (by rw [c9]; rfl) (by decide) ?_
    refine nE_aload_n dX8_told_84 rfl rfl ?_
    refine nE_getI fl_X8_136 sC_0 rfl dX8_told_85 ?_
    exact nE_iret dX8_told_88 rfl h
  replace h := h.2
  by_cases c10 : x1 = 6
  · have h := h.1 c10
    refine nE_tabIn (off := 88) (tgt := 89) dX8_told_1 (by rw [c10]; decide) (by rw [c10]; decide) (by rw [c10]; rfl) (by decide) ?_
    refine nE_aload_n dX8_told_89 rfl rfl ?_
    refine nE_callV (As := []) yf_X8_countLogged ⟨by decide, by decide⟩ rfl rfl sC_0 rfl vl_X8_139 dX8_told_90 rfl rfl (Nat.le_of_ble_eq_true rfl) (Nat.le_of_ble_eq_true rfl) (nE_mono (fun z13 τ11 h => ?_) h)
    obtain ⟨r12, rfl, h⟩ := h
    exact nE_iret dX8_told_93 rfl h
  replace h := h.2
  have h := h ⟨c1, c3, c5, c7, c8, c9, c10⟩
  refine nE_tabOut (tgt := 94) dX8_told_1 (by have := nh_tk (z := 0) c1 (by decide); have := nh_tk (z := 1) c3 (by decide); have := nh_tk (z := 2) c5 (by decide); have := nh_tk (z := 3) c7 (by decide); have := nh_tk (z := 4) c8 (by decide); have := nh_tk (z := 5) c9 (by decide); have := nh_tk (z := 6) c10 (by decide); omega) (by decide) ?_
  refine nE_ldc kc_X8_93 dX8_told_94 ?_
  exact nE_iret dX8_told_96 rfl h
set_option maxRecDepth 20000 in
theorem sg_X8_house_0 (x1 : Int32) (x2 : Int32) {σ : nh_S} {Q : Option Value → nh_S → Prop} (h : (isP (σ.2.2 0 11)) ∧ (¬ ((x1 < 0) ∨ ¬ (x1 < σ.1 (σ.2.2 0 11) 0)) → ((x2 = 0 → ((vp_in x1 9) ∧ Q (some (.int (σ.2.1 ((σ.2.2 0 11) + 1) x1.toNatClampNeg))) σ)) ∧ (x2 = 1 → ((vp_in x1 9) ∧ Q (some (.int (σ.2.1 ((σ.2.2 0 11) + 2) x1.toNatClampNeg))) σ)) ∧ (x2 = 2 → ((vp_in (x2 - 2) 4) ∧ (vp_in x1 9) ∧ Q (some (.int (σ.2.1 ((σ.2.2 0 11) + 4 + (x2 - 2).toNatClampNeg) x1.toNatClampNeg))) σ)) ∧ (x2 = 3 → ((vp_in (x2 - 2) 4) ∧ (vp_in x1 9) ∧ Q (some (.int (σ.2.1 ((σ.2.2 0 11) + 4 + (x2 - 2).toNatClampNeg) x1.toNatClampNeg))) σ)) ∧ (x2 = 4 → ((vp_in (x2 - 2) 4) ∧ (vp_in x1 9) ∧ Q (some (.int (σ.2.1 ((σ.2.2 0 11) + 4 + (x2 - 2).toNatClampNeg) x1.toNatClampNeg))) σ)) ∧ (x2 = 5 → ((vp_in (x2 - 2) 4) ∧ (vp_in x1 9) ∧ Q (some (.int (σ.2.1 ((σ.2.2 0 11) + 4 + (x2 - 2).toNatClampNeg) x1.toNatClampNeg))) σ)) ∧ (x2 = 6 → (nh_E kX2_partsAt 0 [some (.ref 3), some (.int x1), some (.int (σ.1 (σ.2.2 0 11) 1)), none, none] [] σ (nh_qi fun r21 τ20 => Q (some (.int r21)) τ20))) ∧ ((¬ x2 = 0 ∧ ¬ x2 = 1 ∧ ¬ x2 = 2 ∧ ¬ x2 = 3 ∧ ¬ x2 = 4 ∧ ¬ x2 = 5 ∧ ¬ x2 = 6) → (Q (some (.int (-1000002))) σ)))) ∧ ((x1 < 0) ∨ ¬ (x1 < σ.1 (σ.2.2 0 11) 0) → (Q (some (.int (-1000001))) σ))) : nh_E kX8_house 0 [some (.ref 0), some (.int x1), some (.int x2)] [] σ Q := by
  refine nE_aload_n dX8_house_0 rfl rfl ?_
  refine nE_iload_n dX8_house_1 rfl rfl ?_
  obtain ⟨g1, h⟩ := h
  refine nE_callV (As := [.int x1]) yf_X8_noHouse ⟨by decide, by decide⟩ rfl rfl sC_0 rfl vl_X8_143 dX8_house_2 rfl rfl (Nat.le_of_ble_eq_true rfl) (Nat.le_of_ble_eq_true rfl) (p_X8_noHouse _ g1 ?_)
  refine nE_ifb_eq (tgt := 11) dX8_house_5 (by decide) ⟨fun c2 => ?_, fun c2 => ?_⟩
  · have h := h.1 c2
    refine nE_iload_n dX8_house_11 rfl rfl ?_
    by_cases c3 : x2 = 0
    · have h := h.1 c3
      refine nE_tabIn (off := 44) (tgt := 56) dX8_house_12 (by rw [c3]; decide) (by rw [c3]; decide) (by rw [c3]; rfl) (by decide) ?_
      refine nE_aload_n dX8_house_56 rfl rfl ?_
      refine nE_getR fl_X8_73 sC_0 rfl dX8_house_57 ?_
      refine nE_getC fl_X8_148 (sP_0 g1) rfl dX8_house_60 ?_
      refine nE_iload_n dX8_house_63 rfl rfl ?_
      obtain ⟨g4, h⟩ := h
      refine nG_iald (j := x1.toNatClampNeg) (sP_1 g1) rfl dX8_house_64 ⟨g4, ?_⟩
      exact nE_iret dX8_house_65 rfl h
    replace h := h.2
    by_cases c5 : x2 = 1
    · have h := h.1 c5
      refine nE_tabIn (off := 54) (tgt := 66) dX8_house_12 (by rw [c5]; decide) (by rw [c5]; decide) (by rw [c5]; rfl) (by decide) ?_
      refine nE_aload_n dX8_house_66 rfl rfl ?_
      refine nE_getR fl_X8_73 sC_0 rfl dX8_house_67 ?_
      refine nE_getC fl_X8_151 (sP_0 g1) rfl dX8_house_70 ?_
      refine nE_iload_n dX8_house_73 rfl rfl ?_
      obtain ⟨g6, h⟩ := h
      refine nG_iald (j := x1.toNatClampNeg) (sP_2 g1) rfl dX8_house_74 ⟨g6, ?_⟩
      exact nE_iret dX8_house_75 rfl h
    replace h := h.2
    by_cases c7 : x2 = 2
    · have h := h.1 c7
      refine nE_tabIn (off := 64) (tgt := 76) dX8_house_12 (by rw [c7]; decide) (by rw [c7]; decide) (by rw [c7]; rfl) (by decide) ?_
      refine nE_aload_n dX8_house_76 rfl rfl ?_
      refine nE_getR fl_X8_73 sC_0 rfl dX8_house_77 ?_
      refine nE_getC fl_X8_154 (sP_0 g1) rfl dX8_house_80 ?_
      refine nE_iload_n dX8_house_83 rfl rfl ?_
      refine nE_iconst (v := 2) dX8_house_84 (by decide) ?_
      refine nE_isub dX8_house_85 ?_
      obtain ⟨g8, h⟩ := h
      refine nG_aald (j := (x2 - 2).toNatClampNeg) (sP_3 g1) rfl dX8_house_86 ⟨g8, ?_⟩
      refine nE_iload_n dX8_house_87 rfl rfl ?_
      obtain ⟨g9, h⟩ := h
      refine nG_iald (j := x1.toNatClampNeg) (sP_r3 g1 g8) rfl dX8_house_88 ⟨g9, ?_⟩
      exact nE_iret dX8_house_89 rfl h
    replace h := h.2
    by_cases c10 : x2 = 3
    · have h := h.1 c10
      refine nE_tabIn (off := 64) (tgt := 76) dX8_house_12 (by rw [c10]; decide) (by rw [c10]; decide) (by rw [c10]; rfl) (by decide) ?_
      refine nE_aload_n dX8_house_76 rfl rfl ?_
      refine nE_getR fl_X8_73 sC_0 rfl dX8_house_77 ?_
      refine nE_getC fl_X8_154 (sP_0 g1) rfl dX8_house_80 ?_
      refine nE_iload_n dX8_house_83 rfl rfl ?_
      refine nE_iconst (v := 2) dX8_house_84 (by decide) ?_
      refine nE_isub dX8_house_85 ?_
      obtain ⟨g11, h⟩ := h
      refine nG_aald (j := (x2 - 2).toNatClampNeg) (sP_3 g1) rfl dX8_house_86 ⟨g11, ?_⟩
      refine nE_iload_n dX8_house_87 rfl rfl ?_
      obtain ⟨g12, h⟩ := h
      refine nG_iald (j := x1.toNatClampNeg) (sP_r3 g1 g11) rfl dX8_house_88 ⟨g12, ?_⟩
      exact nE_iret dX8_house_89 rfl h
    replace h := h.2
    by_cases c13 : x2 = 4
    · have h := h.1 c13
      refine nE_tabIn (off := 64) (tgt := 76) dX8_house_12 (by rw [c13]; decide) (by rw [c13]; decide) (by rw [c13]; rfl) (by decide) ?_
      refine nE_aload_n dX8_house_76 rfl rfl ?_
      refine nE_getR fl_X8_73 sC_0 rfl dX8_house_77 ?_
      refine nE_getC fl_X8_154 (sP_0 g1) rfl dX8_house_80 ?_
      refine nE_iload_n dX8_house_83 rfl rfl ?_
      refine nE_iconst (v := 2) dX8_house_84 (by decide) ?_
      refine nE_isub dX8_house_85 ?_
      obtain ⟨g14, h⟩ := h
      refine nG_aald (j := (x2 - 2).toNatClampNeg) (sP_3 g1) rfl dX8_house_86 ⟨g14, ?_⟩
      refine nE_iload_n dX8_house_87 rfl rfl ?_
      obtain ⟨g15, h⟩ := h
      refine nG_iald (j := x1.toNatClampNeg) (sP_r3 g1 g14) rfl dX8_house_88 ⟨g15, ?_⟩
      exact nE_iret dX8_house_89 rfl h
    replace h := h.2
    by_cases c16 : x2 = 5
    · have h := h.1 c16
      refine nE_tabIn (off := 64) (tgt := 76) dX8_house_12 (by rw [c16]; decide) (by rw [c16]; decide) (by rw [c16]; rfl) (by decide) ?_
      refine nE_aload_n dX8_house_76 rfl rfl ?_
      refine nE_getR fl_X8_73 sC_0 rfl dX8_house_77 ?_
      refine nE_getC fl_X8_154 (sP_0 g1) rfl dX8_house_80 ?_
      refine nE_iload_n dX8_house_83 rfl rfl ?_
      refine nE_iconst (v := 2) dX8_house_84 (by decide) ?_
      refine nE_isub dX8_house_85 ?_
      obtain ⟨g17, h⟩ := h
      refine nG_aald (j := (x2 - 2).toNatClampNeg) (sP_3 g1) rfl dX8_house_86 ⟨g17, ?_⟩
      refine nE_iload_n dX8_house_87 rfl rfl ?_
      obtain ⟨g18, h⟩ := h
      refine nG_iald (j := x1.toNatClampNeg) (sP_r3 g1 g17) rfl dX8_house_88 ⟨g18, ?_⟩
      exact nE_iret dX8_house_89 rfl h
    replace h := h.2
    by_cases c19 : x2 = 6
    · have h := h.1 c19
      refine nE_tabIn (off := 78) (tgt := 90) dX8_house_12 (by rw [c19]; decide) (by rw [c19]; decide) (by rw [c19]; rfl) (by decide) ?_
      refine nE_aload_n dX8_house_90 rfl rfl ?_
      refine nE_getC fl_X8_19 sC_0 rfl dX8_house_91 ?_
      refine nE_iload_n dX8_house_94 rfl rfl ?_
      refine nE_aload_n dX8_house_95 rfl rfl ?_
      refine nE_getR fl_X8_73 sC_0 rfl dX8_house_96 ?_
      refine nE_getI fl_X8_130 (sP_0 g1) rfl dX8_house_99 ?_
      refine nE_callV (As := [.int x1, .int (σ.1 (σ.2.2 0 11) 1)]) yf_X2_partsAt ⟨by decide, by decide⟩ rfl rfl (sN_0 isN_3) rfl vl_X8_158 dX8_house_102 rfl rfl (Nat.le_of_ble_eq_true rfl) (Nat.le_of_ble_eq_true rfl) (nE_mono (fun z22 τ20 h => ?_) h)
      obtain ⟨r21, rfl, h⟩ := h
      exact nE_iret dX8_house_105 rfl h
    replace h := h.2
    have h := h ⟨c3, c5, c7, c10, c13, c16, c19⟩
    refine nE_tabOut (tgt := 106) dX8_house_12 (by have := nh_tk (z := 0) c3 (by decide); have := nh_tk (z := 1) c5 (by decide); have := nh_tk (z := 2) c7 (by decide); have := nh_tk (z := 3) c10 (by decide); have := nh_tk (z := 4) c13 (by decide); have := nh_tk (z := 5) c16 (by decide); have := nh_tk (z := 6) c19 (by decide); omega) (by decide) ?_
    refine nE_ldc kc_X8_93 dX8_house_106 ?_
    exact nE_iret dX8_house_108 rfl h
  · have h := h.2 c2
    refine nE_ldc kc_X8_147 dX8_house_8 ?_
    exact nE_iret dX8_house_10 rfl h
set_option maxRecDepth 20000 in
theorem sg_X8_far_0 (x1 : Int32) (x2 : Int32) {σ : nh_S} {Q : Option Value → nh_S → Prop} (h : (isP (σ.2.2 0 11)) ∧ ((x1 < 0) ∨ ¬ (x1 < σ.1 (σ.2.2 0 11) 0) → (Q (some (.int (-1000001))) σ)) ∧ (¬ ((x1 < 0) ∨ ¬ (x1 < σ.1 (σ.2.2 0 11) 0)) → ((¬ ((x2 < 0) ∨ ¬ (x2 < σ.1 (σ.2.2 0 11) 0)) → ((vp_in x1 9) ∧ (vp_in x2 9) ∧ Q (some (.int (σ.2.1 ((σ.2.2 0 11) + 9 + x1.toNatClampNeg) x2.toNatClampNeg))) σ)) ∧ ((x2 < 0) ∨ ¬ (x2 < σ.1 (σ.2.2 0 11) 0) → (Q (some (.int (-1000001))) σ))))) : nh_E kX8_far 0 [some (.ref 0), some (.int x1), some (.int x2)] [] σ Q := by
  refine nE_aload_n dX8_far_0 rfl rfl ?_
  refine nE_iload_n dX8_far_1 rfl rfl ?_
  obtain ⟨g1, h⟩ := h
  refine nE_callV (As := [.int x1]) yf_X8_noHouse ⟨by decide, by decide⟩ rfl rfl sC_0 rfl vl_X8_143 dX8_far_2 rfl rfl (Nat.le_of_ble_eq_true rfl) (Nat.le_of_ble_eq_true rfl) (p_X8_noHouse _ g1 ?_)
  refine nE_ifb_ne (tgt := 16) dX8_far_5 (by decide) ⟨fun c2 => ?_, fun c2 => ?_⟩
  · have h := h.1 c2
    refine nE_ldc kc_X8_147 dX8_far_16 ?_
    exact nE_iret dX8_far_18 rfl h
  · have h := h.2 c2
    refine nE_aload_n dX8_far_8 rfl rfl ?_
    refine nE_iload_n dX8_far_9 rfl rfl ?_
    refine nE_callV (As := [.int x2]) yf_X8_noHouse ⟨by decide, by decide⟩ rfl rfl sC_0 rfl vl_X8_143 dX8_far_10 rfl rfl (Nat.le_of_ble_eq_true rfl) (Nat.le_of_ble_eq_true rfl) (p_X8_noHouse _ g1 ?_)
    refine nE_ifb_eq (tgt := 19) dX8_far_13 (by decide) ⟨fun c3 => ?_, fun c3 => ?_⟩
    · have h := h.1 c3
      refine nE_aload_n dX8_far_19 rfl rfl ?_
      refine nE_getR fl_X8_73 sC_0 rfl dX8_far_20 ?_
      refine nE_getC fl_X8_162 (sP_0 g1) rfl dX8_far_23 ?_
      refine nE_iload_n dX8_far_26 rfl rfl ?_
      obtain ⟨g4, h⟩ := h
      refine nG_aald (j := x1.toNatClampNeg) (sP_8 g1) rfl dX8_far_27 ⟨g4, ?_⟩
      refine nE_iload_n dX8_far_28 rfl rfl ?_
      obtain ⟨g5, h⟩ := h
      refine nG_iald (j := x2.toNatClampNeg) (sP_r8 g1 g4) rfl dX8_far_29 ⟨g5, ?_⟩
      exact nE_iret dX8_far_30 rfl h
    · have h := h.2 c3
      refine nE_ldc kc_X8_147 dX8_far_16 ?_
      exact nE_iret dX8_far_18 rfl h
set_option maxRecDepth 20000 in
theorem sg_X8_part_0 (x1 : Int32) (x2 : Int32) {σ : nh_S} {Q : Option Value → nh_S → Prop} (h : (isP (σ.2.2 0 11)) ∧ (¬ ((x1 < 0) ∨ ¬ (x1 < σ.1 (σ.2.2 0 11) 1)) → ((x2 = 0 → ((vp_in x1 12) ∧ Q (some (.int (σ.2.1 4 x1.toNatClampNeg))) σ)) ∧ (x2 = 1 → ((vp_in x1 12) ∧ Q (some (.int (σ.2.1 ((σ.2.2 0 11) + 19) x1.toNatClampNeg))) σ)) ∧ (x2 = 2 → ((vp_in x1 12) ∧ Q (some (.int (σ.2.1 ((σ.2.2 0 11) + 20) x1.toNatClampNeg))) σ)) ∧ (x2 = 3 → ((vp_in x1 12) ∧ Q (some (.int (σ.2.1 ((σ.2.2 0 11) + 21) x1.toNatClampNeg))) σ)) ∧ (x2 = 4 → ((vp_in x1 12) ∧ Q (some (.int (σ.2.1 30 x1.toNatClampNeg))) σ)) ∧ (x2 = 5 → ((vp_in x1 12) ∧ Q (some (.int (σ.2.1 5 x1.toNatClampNeg))) σ)) ∧ ((¬ x2 = 0 ∧ ¬ x2 = 1 ∧ ¬ x2 = 2 ∧ ¬ x2 = 3 ∧ ¬ x2 = 4 ∧ ¬ x2 = 5) → (Q (some (.int (-1000002))) σ)))) ∧ ((x1 < 0) ∨ ¬ (x1 < σ.1 (σ.2.2 0 11) 1) → (Q (some (.int (-1000001))) σ))) : nh_E kX8_part 0 [some (.ref 0), some (.int x1), some (.int x2)] [] σ Q := by
  refine nE_aload_n dX8_part_0 rfl rfl ?_
  refine nE_iload_n dX8_part_1 rfl rfl ?_
  obtain ⟨g1, h⟩ := h
  refine nE_callV (As := [.int x1]) yf_X8_noPart ⟨by decide, by decide⟩ rfl rfl sC_0 rfl vl_X8_165 dX8_part_2 rfl rfl (Nat.le_of_ble_eq_true rfl) (Nat.le_of_ble_eq_true rfl) (p_X8_noPart _ g1 ?_)
  refine nE_ifb_eq (tgt := 11) dX8_part_5 (by decide) ⟨fun c2 => ?_, fun c2 => ?_⟩
  · have h := h.1 c2
    refine nE_iload_n dX8_part_11 rfl rfl ?_
    by_cases c3 : x2 = 0
    · have h := h.1 c3
      refine nE_tabIn (off := 40) (tgt := 52) dX8_part_12 (by rw [c3]; decide) (by rw [c3]; decide) (by rw [c3]; rfl) (by decide) ?_
      refine nE_aload_n dX8_part_52 rfl rfl ?_
      refine nE_getC fl_X8_19 sC_0 rfl dX8_part_53 ?_
      refine nE_getC fl_X8_168 (sN_0 isN_3) rfl dX8_part_56 ?_
      refine nE_iload_n dX8_part_59 rfl rfl ?_
      obtain ⟨g4, h⟩ := h
      refine nG_iald (j := x1.toNatClampNeg) (sN_1 isN_3) rfl dX8_part_60 ⟨g4, ?_⟩
      exact nE_iret dX8_part_61 rfl h
    replace h := h.2
    by_cases c5 : x2 = 1
    · have h := h.1 c5
      refine nE_tabIn (off := 50) (tgt := 62) dX8_part_12 (by rw [c5]; decide) (by rw [c5]; decide) (by rw [c5]; rfl) (by decide) ?_
      refine nE_aload_n dX8_part_62 rfl rfl ?_
      refine nE_getR fl_X8_73 sC_0 rfl dX8_part_63 ?_
      refine nE_getC fl_X8_171 (sP_0 g1) rfl dX8_part_66 ?_
      refine nE_iload_n dX8_part_69 rfl rfl ?_
      obtain ⟨g6, h⟩ := h
      refine nG_iald (j := x1.toNatClampNeg) (sP_19 g1) rfl dX8_part_70 ⟨g6, ?_⟩
      exact nE_iret dX8_part_71 rfl h
    replace h := h.2
    by_cases c7 : x2 = 2
    · have h := h.1 c7
      refine nE_tabIn (off := 60) (tgt := 72) dX8_part_12 (by rw [c7]; decide) (by rw [c7]; decide) (by rw [c7]; rfl) (by decide) ?_
      refine nE_aload_n dX8_part_72 rfl rfl ?_
      refine nE_getR fl_X8_73 sC_0 rfl dX8_part_73 ?_
      refine nE_getC fl_X8_174 (sP_0 g1) rfl dX8_part_76 ?_
      refine nE_iload_n dX8_part_79 rfl rfl ?_
      obtain ⟨g8, h⟩ := h
      refine nG_iald (j := x1.toNatClampNeg) (sP_20 g1) rfl dX8_part_80 ⟨g8, ?_⟩
      exact nE_iret dX8_part_81 rfl h
    replace h := h.2
    by_cases c9 : x2 = 3
    · have h := h.1 c9
      refine nE_tabIn (off := 70) (tgt := 82) dX8_part_12 (by rw [c9]; decide) (by rw [c9]; decide) (by rw [c9]; rfl) (by decide) ?_
      refine nE_aload_n dX8_part_82 rfl rfl ?_
      refine nE_getR fl_X8_73 sC_0 rfl dX8_part_83 ?_
      refine nE_getC fl_X8_177 (sP_0 g1) rfl dX8_part_86 ?_
      refine nE_iload_n dX8_part_89 rfl rfl ?_
      obtain ⟨g10, h⟩ := h
      refine nG_iald (j := x1.toNatClampNeg) (sP_21 g1) rfl dX8_part_90 ⟨g10, ?_⟩
      exact nE_iret dX8_part_91 rfl h
    replace h := h.2
    by_cases c11 : x2 = 4
    · have h := h.1 c11
      refine nE_tabIn (off := 80) (tgt := 92) dX8_part_12 (by rw [c11]; decide) (by rw [c11]; decide) (by rw [c11]; rfl) (by decide) ?_
      refine nE_aload_n dX8_part_92 rfl rfl ?_
      refine nE_getC fl_X8_60 sC_0 rfl dX8_part_93 ?_
      refine nE_iload_n dX8_part_96 rfl rfl ?_
      obtain ⟨g12, h⟩ := h
      refine nG_iald (j := x1.toNatClampNeg) sC_30 rfl dX8_part_97 ⟨g12, ?_⟩
      exact nE_iret dX8_part_98 rfl h
    replace h := h.2
    by_cases c13 : x2 = 5
    · have h := h.1 c13
      refine nE_tabIn (off := 87) (tgt := 99) dX8_part_12 (by rw [c13]; decide) (by rw [c13]; decide) (by rw [c13]; rfl) (by decide) ?_
      refine nE_aload_n dX8_part_99 rfl rfl ?_
      refine nE_getC fl_X8_19 sC_0 rfl dX8_part_100 ?_
      refine nE_getC fl_X8_180 (sN_0 isN_3) rfl dX8_part_103 ?_
      refine nE_iload_n dX8_part_106 rfl rfl ?_
      obtain ⟨g14, h⟩ := h
      refine nG_iald (j := x1.toNatClampNeg) (sN_2 isN_3) rfl dX8_part_107 ⟨g14, ?_⟩
      exact nE_iret dX8_part_108 rfl h
    replace h := h.2
    have h := h ⟨c3, c5, c7, c9, c11, c13⟩
    refine nE_tabOut (tgt := 109) dX8_part_12 (by have := nh_tk (z := 0) c3 (by decide); have := nh_tk (z := 1) c5 (by decide); have := nh_tk (z := 2) c7 (by decide); have := nh_tk (z := 3) c9 (by decide); have := nh_tk (z := 4) c11 (by decide); have := nh_tk (z := 5) c13 (by decide); omega) (by decide) ?_
    refine nE_ldc kc_X8_93 dX8_part_109 ?_
    exact nE_iret dX8_part_111 rfl h
  · have h := h.2 c2
    refine nE_ldc kc_X8_147 dX8_part_8 ?_
    exact nE_iret dX8_part_10 rfl h
set_option maxRecDepth 20000 in
theorem sg_X8_away_0 (x1 : Int32) {σ : nh_S} {Q : Option Value → nh_S → Prop} (h : (isP (σ.2.2 0 11)) ∧ (¬ (¬ (x1 &&& (((1 <<< ((σ.1 (σ.2.2 0 11) 0) &&& 31)) - 1) ^^^ (-1)) = 0)) → (Q (some (.int (σ.1 3 2))) (nh_si σ 3 2 x1))) ∧ (¬ (x1 &&& (((1 <<< ((σ.1 (σ.2.2 0 11) 0) &&& 31)) - 1) ^^^ (-1)) = 0) → (Q (some (.int (-1000001))) σ))) : nh_E kX8_away 0 [some (.ref 0), some (.int x1), none] [] σ Q := by
  refine nE_iload_n dX8_away_0 rfl rfl ?_
  refine nE_aload_n dX8_away_1 rfl rfl ?_
  obtain ⟨g1, h⟩ := h
  refine nE_getR fl_X8_73 sC_0 rfl dX8_away_2 ?_
  refine nE_getI fl_X8_117 (sP_0 g1) rfl dX8_away_5 ?_
  refine nE_callS (As := [.int x1, .int (σ.1 (σ.2.2 0 11) 0)]) yf_X8_beyond ⟨by decide, by decide⟩ rfl sl_X8_183 dX8_away_8 rfl rfl (Nat.le_of_ble_eq_true rfl) (Nat.le_of_ble_eq_true rfl) (p_X8_beyond _ _ ?_)
  refine nE_ifb_eq (tgt := 17) dX8_away_11 (by decide) ⟨fun c2 => ?_, fun c2 => ?_⟩
  · have h := h.1 c2
    refine nE_aload_n dX8_away_17 rfl rfl ?_
    refine nE_getC fl_X8_19 sC_0 rfl dX8_away_18 ?_
    refine nE_getI fl_X8_133 (sN_0 isN_3) rfl dX8_away_21 ?_
    refine nE_istore_n dX8_away_24 rfl rfl (by decide) ?_
    refine nE_aload_n dX8_away_25 rfl rfl ?_
    refine nE_getC fl_X8_19 sC_0 rfl dX8_away_26 ?_
    refine nE_iload_n dX8_away_29 rfl rfl ?_
    refine nE_putI fl_X8_133 (sN_0 isN_3) rfl ⟨rfl, rfl⟩ dX8_away_30 ?_
    refine nE_iload_n dX8_away_33 rfl rfl ?_
    exact nE_iret dX8_away_34 rfl h
  · have h := h.2 c2
    refine nE_ldc kc_X8_147 dX8_away_14 ?_
    exact nE_iret dX8_away_16 rfl h
set_option maxRecDepth 20000 in
theorem sg_X8_awake_0 (x1 : Int32) (x2 : Int32) {σ : nh_S} {Q : Option Value → nh_S → Prop} (h : (isP (σ.2.2 0 11)) ∧ ((x1 < 0) ∨ ¬ (x1 < σ.1 (σ.2.2 0 11) 0) → (Q (some (.int (-1000001))) σ)) ∧ (¬ ((x1 < 0) ∨ ¬ (x1 < σ.1 (σ.2.2 0 11) 0)) → ((¬ ((x2 < 0) ∨ ¬ (x2 < σ.1 (σ.2.2 0 11) 0)) → (nh_E kX8_wakeAll 0 [some (.ref 0), some (.int x1)] [] σ (nh_qv fun τ4 => (vp_in x2 9) ∧ Q (some (.int (τ4.2.1 13 x2.toNatClampNeg))) τ4))) ∧ ((x2 < 0) ∨ ¬ (x2 < σ.1 (σ.2.2 0 11) 0) → (Q (some (.int (-1000001))) σ))))) : nh_E kX8_awake 0 [some (.ref 0), some (.int x1), some (.int x2)] [] σ Q := by
  refine nE_aload_n dX8_awake_0 rfl rfl ?_
  refine nE_iload_n dX8_awake_1 rfl rfl ?_
  obtain ⟨g1, h⟩ := h
  refine nE_callV (As := [.int x1]) yf_X8_noHouse ⟨by decide, by decide⟩ rfl rfl sC_0 rfl vl_X8_143 dX8_awake_2 rfl rfl (Nat.le_of_ble_eq_true rfl) (Nat.le_of_ble_eq_true rfl) (p_X8_noHouse _ g1 ?_)
  refine nE_ifb_ne (tgt := 16) dX8_awake_5 (by decide) ⟨fun c2 => ?_, fun c2 => ?_⟩
  · have h := h.1 c2
    refine nE_ldc kc_X8_147 dX8_awake_16 ?_
    exact nE_iret dX8_awake_18 rfl h
  · have h := h.2 c2
    refine nE_aload_n dX8_awake_8 rfl rfl ?_
    refine nE_iload_n dX8_awake_9 rfl rfl ?_
    refine nE_callV (As := [.int x2]) yf_X8_noHouse ⟨by decide, by decide⟩ rfl rfl sC_0 rfl vl_X8_143 dX8_awake_10 rfl rfl (Nat.le_of_ble_eq_true rfl) (Nat.le_of_ble_eq_true rfl) (p_X8_noHouse _ g1 ?_)
    refine nE_ifb_eq (tgt := 19) dX8_awake_13 (by decide) ⟨fun c3 => ?_, fun c3 => ?_⟩
    · have h := h.1 c3
      refine nE_aload_n dX8_awake_19 rfl rfl ?_
      refine nE_iload_n dX8_awake_20 rfl rfl ?_
      refine nE_callV (As := [.int x1]) yf_X8_wakeAll ⟨by decide, by decide⟩ rfl rfl sC_0 rfl vl_X8_187 dX8_awake_21 rfl rfl (Nat.le_of_ble_eq_true rfl) (Nat.le_of_ble_eq_true rfl) (nE_mono (fun z6 τ4 h => ?_) h)
      obtain ⟨rfl, h⟩ := h
      refine nE_aload_n dX8_awake_24 rfl rfl ?_
      refine nE_getC fl_X8_32 sC_0 rfl dX8_awake_25 ?_
      refine nE_getC fl_X8_191 sC_12 rfl dX8_awake_28 ?_
      refine nE_iload_n dX8_awake_31 rfl rfl ?_
      obtain ⟨g7, h⟩ := h
      refine nG_iald (j := x2.toNatClampNeg) sC_13 rfl dX8_awake_32 ⟨g7, ?_⟩
      exact nE_iret dX8_awake_33 rfl h
    · have h := h.2 c3
      refine nE_ldc kc_X8_147 dX8_awake_16 ?_
      exact nE_iret dX8_awake_18 rfl h
set_option maxRecDepth 20000 in
theorem sg_X8_comes_0 (x1 : Int32) (x2 : Int32) (x3 : Int32) {σ : nh_S} {Q : Option Value → nh_S → Prop} (h : (isP (σ.2.2 0 11)) ∧ ((x1 < 0) ∨ ¬ (x1 < σ.1 (σ.2.2 0 11) 0) → (Q (some (.int (-1000001))) σ)) ∧ (¬ ((x1 < 0) ∨ ¬ (x1 < σ.1 (σ.2.2 0 11) 0)) → (((x2 < 0) ∨ ¬ (x2 < σ.1 (σ.2.2 0 11) 0) → (Q (some (.int (-1000001))) σ)) ∧ (¬ ((x2 < 0) ∨ ¬ (x2 < σ.1 (σ.2.2 0 11) 0)) → ((¬ ((x3 < 0) ∨ ¬ (x3 < σ.1 (σ.2.2 0 11) 1)) → (nh_E kX8_wakeAll 0 [some (.ref 0), some (.int x2)] [] σ (nh_qv fun τ5 => (isP (τ5.2.2 0 11)) ∧ (vp_in x3 12) ∧ nh_E kX7_arrival 0 [some (.ref 12), some (.ref (τ5.2.2 0 11)), some (.int (τ5.2.1 4 x3.toNatClampNeg)), some (.int x1)] [] τ5 (nh_qi fun r11 τ10 => Q (some (.int r11)) τ10)))) ∧ ((x3 < 0) ∨ ¬ (x3 < σ.1 (σ.2.2 0 11) 1) → (Q (some (.int (-1000001))) σ))))))) : nh_E kX8_comes 0 [some (.ref 0), some (.int x1), some (.int x2), some (.int x3)] [] σ Q := by
  refine nE_aload_n dX8_comes_0 rfl rfl ?_
  refine nE_iload_n dX8_comes_1 rfl rfl ?_
  obtain ⟨g1, h⟩ := h
  refine nE_callV (As := [.int x1]) yf_X8_noHouse ⟨by decide, by decide⟩ rfl rfl sC_0 rfl vl_X8_143 dX8_comes_2 rfl rfl (Nat.le_of_ble_eq_true rfl) (Nat.le_of_ble_eq_true rfl) (p_X8_noHouse _ g1 ?_)
  refine nE_ifb_ne (tgt := 24) dX8_comes_5 (by decide) ⟨fun c2 => ?_, fun c2 => ?_⟩
  · have h := h.1 c2
    refine nE_ldc kc_X8_147 dX8_comes_24 ?_
    exact nE_iret dX8_comes_26 rfl h
  · have h := h.2 c2
    refine nE_aload_n dX8_comes_8 rfl rfl ?_
    refine nE_iload_n dX8_comes_9 rfl rfl ?_
    refine nE_callV (As := [.int x2]) yf_X8_noHouse ⟨by decide, by decide⟩ rfl rfl sC_0 rfl vl_X8_143 dX8_comes_10 rfl rfl (Nat.le_of_ble_eq_true rfl) (Nat.le_of_ble_eq_true rfl) (p_X8_noHouse _ g1 ?_)
    refine nE_ifb_ne (tgt := 24) dX8_comes_13 (by decide) ⟨fun c3 => ?_, fun c3 => ?_⟩
    · have h := h.1 c3
      refine nE_ldc kc_X8_147 dX8_comes_24 ?_
      exact nE_iret dX8_comes_26 rfl h
    · have h := h.2 c3
      refine nE_aload_n dX8_comes_16 rfl rfl ?_
      refine nE_iload_n dX8_comes_17 rfl rfl ?_
      refine nE_callV (As := [.int x3]) yf_X8_noPart ⟨by decide, by decide⟩ rfl rfl sC_0 rfl vl_X8_165 dX8_comes_18 rfl rfl (Nat.le_of_ble_eq_true rfl) (Nat.le_of_ble_eq_true rfl) (p_X8_noPart _ g1 ?_)
      refine nE_ifb_eq (tgt := 27) dX8_comes_21 (by decide) ⟨fun c4 => ?_, fun c4 => ?_⟩
      · have h := h.1 c4
        refine nE_aload_n dX8_comes_27 rfl rfl ?_
        refine nE_iload_n dX8_comes_28 rfl rfl ?_
        refine nE_callV (As := [.int x2]) yf_X8_wakeAll ⟨by decide, by decide⟩ rfl rfl sC_0 rfl vl_X8_187 dX8_comes_29 rfl rfl (Nat.le_of_ble_eq_true rfl) (Nat.le_of_ble_eq_true rfl) (nE_mono (fun z7 τ5 h => ?_) h)
        obtain ⟨rfl, h⟩ := h
        refine nE_aload_n dX8_comes_32 rfl rfl ?_
        refine nE_getC fl_X8_32 sC_0 rfl dX8_comes_33 ?_
        refine nE_aload_n dX8_comes_36 rfl rfl ?_
        obtain ⟨g8, h⟩ := h
        refine nE_getR fl_X8_73 sC_0 rfl dX8_comes_37 ?_
        refine nE_aload_n dX8_comes_40 rfl rfl ?_
        refine nE_getC fl_X8_19 sC_0 rfl dX8_comes_41 ?_
        refine nE_getC fl_X8_168 (sN_0 isN_3) rfl dX8_comes_44 ?_
        refine nE_iload_n dX8_comes_47 rfl rfl ?_
        obtain ⟨g9, h⟩ := h
        refine nG_iald (j := x3.toNatClampNeg) (sN_1 isN_3) rfl dX8_comes_48 ⟨g9, ?_⟩
        refine nE_iload_n dX8_comes_49 rfl rfl ?_
        refine nE_callV (As := [.ref (τ5.2.2 0 11), .int (τ5.2.1 4 x3.toNatClampNeg), .int x1]) yf_X7_arrival ⟨by decide, by decide⟩ rfl rfl sC_12 rfl vl_X8_194 dX8_comes_50 rfl rfl (Nat.le_of_ble_eq_true rfl) (Nat.le_of_ble_eq_true rfl) (nE_mono (fun z12 τ10 h => ?_) h)
        obtain ⟨r11, rfl, h⟩ := h
        exact nE_iret dX8_comes_53 rfl h
      · have h := h.2 c4
        refine nE_ldc kc_X8_147 dX8_comes_24 ?_
        exact nE_iret dX8_comes_26 rfl h
set_option maxRecDepth 20000 in
theorem sg_X8_stands_0 (x1 : Int32) (x2 : Int32) {σ : nh_S} {Q : Option Value → nh_S → Prop} (h : (isP (σ.2.2 0 11)) ∧ ((x1 < 0) ∨ ¬ (x1 < σ.1 (σ.2.2 0 11) 0) → (Q (some (.int (-1000001))) σ)) ∧ (¬ ((x1 < 0) ∨ ¬ (x1 < σ.1 (σ.2.2 0 11) 0)) → ((¬ ((x2 < 0) ∨ ¬ (x2 < σ.1 (σ.2.2 0 11) 0)) → (nh_E kX8_raiseAll 0 [some (.ref 0), some (.int x1), some (.int x2)] [] σ (nh_qi fun r5 τ4 => Q (some (.int r5)) τ4))) ∧ ((x2 < 0) ∨ ¬ (x2 < σ.1 (σ.2.2 0 11) 0) → (Q (some (.int (-1000001))) σ))))) : nh_E kX8_stands 0 [some (.ref 0), some (.int x1), some (.int x2)] [] σ Q := by
  refine nE_aload_n dX8_stands_0 rfl rfl ?_
  refine nE_iload_n dX8_stands_1 rfl rfl ?_
  obtain ⟨g1, h⟩ := h
  refine nE_callV (As := [.int x1]) yf_X8_noHouse ⟨by decide, by decide⟩ rfl rfl sC_0 rfl vl_X8_143 dX8_stands_2 rfl rfl (Nat.le_of_ble_eq_true rfl) (Nat.le_of_ble_eq_true rfl) (p_X8_noHouse _ g1 ?_)
  refine nE_ifb_ne (tgt := 16) dX8_stands_5 (by decide) ⟨fun c2 => ?_, fun c2 => ?_⟩
  · have h := h.1 c2
    refine nE_ldc kc_X8_147 dX8_stands_16 ?_
    exact nE_iret dX8_stands_18 rfl h
  · have h := h.2 c2
    refine nE_aload_n dX8_stands_8 rfl rfl ?_
    refine nE_iload_n dX8_stands_9 rfl rfl ?_
    refine nE_callV (As := [.int x2]) yf_X8_noHouse ⟨by decide, by decide⟩ rfl rfl sC_0 rfl vl_X8_143 dX8_stands_10 rfl rfl (Nat.le_of_ble_eq_true rfl) (Nat.le_of_ble_eq_true rfl) (p_X8_noHouse _ g1 ?_)
    refine nE_ifb_eq (tgt := 19) dX8_stands_13 (by decide) ⟨fun c3 => ?_, fun c3 => ?_⟩
    · have h := h.1 c3
      refine nE_aload_n dX8_stands_19 rfl rfl ?_
      refine nE_iload_n dX8_stands_20 rfl rfl ?_
      refine nE_iload_n dX8_stands_21 rfl rfl ?_
      refine nE_callV (As := [.int x1, .int x2]) yf_X8_raiseAll ⟨by decide, by decide⟩ rfl rfl sC_0 rfl vl_X8_198 dX8_stands_22 rfl rfl (Nat.le_of_ble_eq_true rfl) (Nat.le_of_ble_eq_true rfl) (nE_mono (fun z6 τ4 h => ?_) h)
      obtain ⟨r5, rfl, h⟩ := h
      exact nE_iret dX8_stands_25 rfl h
    · have h := h.2 c3
      refine nE_ldc kc_X8_147 dX8_stands_16 ?_
      exact nE_iret dX8_stands_18 rfl h
set_option maxRecDepth 20000 in
theorem sg_X8_put_0 (x1 : Int32) (x2 : Int32) (x3 : Int32) {σ : nh_S} {Q : Option Value → nh_S → Prop} (h : (isP (σ.2.2 0 11)) ∧ ((x1 < 0) ∨ ¬ (x1 < σ.1 (σ.2.2 0 11) 0) → (Q (some (.int (-1000001))) σ)) ∧ (¬ ((x1 < 0) ∨ ¬ (x1 < σ.1 (σ.2.2 0 11) 0)) → ((¬ ((x2 < 0) ∨ ¬ (x2 < σ.1 (σ.2.2 0 11) 0)) → (nh_E kX8_raiseAll 0 [some (.ref 0), some (.int x1), some (.int x2)] [] σ (nh_qi fun r5 τ4 => (r5 = (-1) → (Q (some (.int (-1))) τ4)) ∧ (¬ (r5 = (-1)) → ((x3 < 0 → (Q (some (.int (-1))) τ4)) ∧ (¬ (x3 < 0) → ((x3 < τ4.1 17 2 → ((vp_in x3 12) ∧ Q (some (.int (τ4.2.1 19 x3.toNatClampNeg))) τ4)) ∧ (¬ (x3 < τ4.1 17 2) → (Q (some (.int (-1))) τ4))))))))) ∧ ((x2 < 0) ∨ ¬ (x2 < σ.1 (σ.2.2 0 11) 0) → (Q (some (.int (-1000001))) σ))))) : nh_E kX8_put 0 [some (.ref 0), some (.int x1), some (.int x2), some (.int x3)] [] σ Q := by
  refine nE_aload_n dX8_put_0 rfl rfl ?_
  refine nE_iload_n dX8_put_1 rfl rfl ?_
  obtain ⟨g1, h⟩ := h
  refine nE_callV (As := [.int x1]) yf_X8_noHouse ⟨by decide, by decide⟩ rfl rfl sC_0 rfl vl_X8_143 dX8_put_2 rfl rfl (Nat.le_of_ble_eq_true rfl) (Nat.le_of_ble_eq_true rfl) (p_X8_noHouse _ g1 ?_)
  refine nE_ifb_ne (tgt := 16) dX8_put_5 (by decide) ⟨fun c2 => ?_, fun c2 => ?_⟩
  · have h := h.1 c2
    refine nE_ldc kc_X8_147 dX8_put_16 ?_
    exact nE_iret dX8_put_18 rfl h
  · have h := h.2 c2
    refine nE_aload_n dX8_put_8 rfl rfl ?_
    refine nE_iload_n dX8_put_9 rfl rfl ?_
    refine nE_callV (As := [.int x2]) yf_X8_noHouse ⟨by decide, by decide⟩ rfl rfl sC_0 rfl vl_X8_143 dX8_put_10 rfl rfl (Nat.le_of_ble_eq_true rfl) (Nat.le_of_ble_eq_true rfl) (p_X8_noHouse _ g1 ?_)
    refine nE_ifb_eq (tgt := 19) dX8_put_13 (by decide) ⟨fun c3 => ?_, fun c3 => ?_⟩
    · have h := h.1 c3
      refine nE_aload_n dX8_put_19 rfl rfl ?_
      refine nE_iload_n dX8_put_20 rfl rfl ?_
      refine nE_iload_n dX8_put_21 rfl rfl ?_
      refine nE_callV (As := [.int x1, .int x2]) yf_X8_raiseAll ⟨by decide, by decide⟩ rfl rfl sC_0 rfl vl_X8_198 dX8_put_22 rfl rfl (Nat.le_of_ble_eq_true rfl) (Nat.le_of_ble_eq_true rfl) (nE_mono (fun z6 τ4 h => ?_) h)
      obtain ⟨r5, rfl, h⟩ := h
      refine nE_iconst (v := (-1)) dX8_put_25 (by decide) ?_
      refine nE_icmp_eq (tgt := 44) dX8_put_26 (by decide) ⟨fun c7 => ?_, fun c7 => ?_⟩
      · have h := h.1 c7
        refine nE_iconst (v := (-1)) dX8_put_44 (by decide) ?_
        exact nE_iret dX8_put_45 rfl h
      · have h := h.2 c7
        refine nE_iload_n dX8_put_29 rfl rfl ?_
        refine nE_if_lt (tgt := 44) dX8_put_30 (by decide) ⟨fun c8 => ?_, fun c8 => ?_⟩
        · have h := h.1 c8
          refine nE_iconst (v := (-1)) dX8_put_44 (by decide) ?_
          exact nE_iret dX8_put_45 rfl h
        · have h := h.2 c8
          refine nE_iload_n dX8_put_33 rfl rfl ?_
          refine nE_aload_n dX8_put_34 rfl rfl ?_
          refine nE_getC fl_X8_39 sC_0 rfl dX8_put_35 ?_
          refine nE_getI fl_X8_201 (sG_0 isG_17) rfl dX8_put_38 ?_
          refine nE_icmp_lt (tgt := 46) dX8_put_41 (by decide) ⟨fun c9 => ?_, fun c9 => ?_⟩
          · have h := h.1 c9
            refine nE_aload_n dX8_put_46 rfl rfl ?_
            refine nE_getC fl_X8_39 sC_0 rfl dX8_put_47 ?_
            refine nE_getC fl_X8_202 (sG_0 isG_17) rfl dX8_put_50 ?_
            refine nE_iload_n dX8_put_53 rfl rfl ?_
            obtain ⟨g10, h⟩ := h
            refine nG_iald (j := x3.toNatClampNeg) (sG_2 isG_17) rfl dX8_put_54 ⟨g10, ?_⟩
            exact nE_iret dX8_put_55 rfl h
          · have h := h.2 c9
            refine nE_iconst (v := (-1)) dX8_put_44 (by decide) ?_
            exact nE_iret dX8_put_45 rfl h
    · have h := h.2 c3
      refine nE_ldc kc_X8_147 dX8_put_16 ?_
      exact nE_iret dX8_put_18 rfl h
set_option maxRecDepth 20000 in
theorem sg_X8_waited_0 (x1 : Int32) (x2 : Int32) {σ : nh_S} {Q : Option Value → nh_S → Prop} (h : (isP (σ.2.2 0 11)) ∧ ((x1 < 0) ∨ ¬ (x1 < σ.1 (σ.2.2 0 11) 0) → (Q (some (.int (-1000001))) σ)) ∧ (¬ ((x1 < 0) ∨ ¬ (x1 < σ.1 (σ.2.2 0 11) 0)) → ((¬ ((x2 < 0) ∨ ¬ (x2 < σ.1 (σ.2.2 0 11) 0)) → (nh_E kX8_raiseAll 0 [some (.ref 0), some (.int x1), some (.int x2)] [] σ (nh_qi fun r5 τ4 => Q (some (.int (τ4.1 17 3))) τ4))) ∧ ((x2 < 0) ∨ ¬ (x2 < σ.1 (σ.2.2 0 11) 0) → (Q (some (.int (-1000001))) σ))))) : nh_E kX8_waited 0 [some (.ref 0), some (.int x1), some (.int x2)] [] σ Q := by
  refine nE_aload_n dX8_waited_0 rfl rfl ?_
  refine nE_iload_n dX8_waited_1 rfl rfl ?_
  obtain ⟨g1, h⟩ := h
  refine nE_callV (As := [.int x1]) yf_X8_noHouse ⟨by decide, by decide⟩ rfl rfl sC_0 rfl vl_X8_143 dX8_waited_2 rfl rfl (Nat.le_of_ble_eq_true rfl) (Nat.le_of_ble_eq_true rfl) (p_X8_noHouse _ g1 ?_)
  refine nE_ifb_ne (tgt := 16) dX8_waited_5 (by decide) ⟨fun c2 => ?_, fun c2 => ?_⟩
  · have h := h.1 c2
    refine nE_ldc kc_X8_147 dX8_waited_16 ?_
    exact nE_iret dX8_waited_18 rfl h
  · have h := h.2 c2
    refine nE_aload_n dX8_waited_8 rfl rfl ?_
    refine nE_iload_n dX8_waited_9 rfl rfl ?_
    refine nE_callV (As := [.int x2]) yf_X8_noHouse ⟨by decide, by decide⟩ rfl rfl sC_0 rfl vl_X8_143 dX8_waited_10 rfl rfl (Nat.le_of_ble_eq_true rfl) (Nat.le_of_ble_eq_true rfl) (p_X8_noHouse _ g1 ?_)
    refine nE_ifb_eq (tgt := 19) dX8_waited_13 (by decide) ⟨fun c3 => ?_, fun c3 => ?_⟩
    · have h := h.1 c3
      refine nE_aload_n dX8_waited_19 rfl rfl ?_
      refine nE_iload_n dX8_waited_20 rfl rfl ?_
      refine nE_iload_n dX8_waited_21 rfl rfl ?_
      refine nE_callV (As := [.int x1, .int x2]) yf_X8_raiseAll ⟨by decide, by decide⟩ rfl rfl sC_0 rfl vl_X8_198 dX8_waited_22 rfl rfl (Nat.le_of_ble_eq_true rfl) (Nat.le_of_ble_eq_true rfl) (nE_mono (fun z6 τ4 h => ?_) h)
      obtain ⟨r5, rfl, h⟩ := h
      refine nE_pop dX8_waited_25 rfl ?_
      refine nE_aload_n dX8_waited_26 rfl rfl ?_
      refine nE_getC fl_X8_39 sC_0 rfl dX8_waited_27 ?_
      refine nE_getI fl_X8_205 (sG_0 isG_17) rfl dX8_waited_30 ?_
      exact nE_iret dX8_waited_33 rfl h
    · have h := h.2 c3
      refine nE_ldc kc_X8_147 dX8_waited_16 ?_
      exact nE_iret dX8_waited_18 rfl h
set_option maxRecDepth 20000 in
theorem sg_X8_odds_0 (x1 : Int32) (x2 : Int32) (x3 : Int32) (x4 : Int32) {σ : nh_S} {Q : Option Value → nh_S → Prop} (h : (isP (σ.2.2 0 11)) ∧ ((x1 < 0) ∨ ¬ (x1 < σ.1 (σ.2.2 0 11) 0) → (Q (some (.int (-1000001))) σ)) ∧ (¬ ((x1 < 0) ∨ ¬ (x1 < σ.1 (σ.2.2 0 11) 0)) → ((¬ ((x2 < 0) ∨ ¬ (x2 < σ.1 (σ.2.2 0 11) 0)) → ((x3 < 0 → (Q (some (.int (-1000002))) σ)) ∧ (¬ (x3 < 0) → ((4 ≤ x3 → (Q (some (.int (-1000002))) σ)) ∧ (¬ (4 ≤ x3) → ((x4 < 0 → (Q (some (.int (-1000002))) σ)) ∧ (¬ (x4 < 0) → ((x4 ≤ 1 → (nh_E kX8_odds 51 [some (.ref 0), some (.int x1), some (.int x2), some (.int x3), some (.int x4), some (.long 0), none, some (.int 0), some (.int 0), none, none, none] [] σ Q)) ∧ (¬ (x4 ≤ 1) → (Q (some (.int (-1000002))) σ)))))))))) ∧ ((x2 < 0) ∨ ¬ (x2 < σ.1 (σ.2.2 0 11) 0) → (Q (some (.int (-1000001))) σ))))) : nh_E kX8_odds 0 [some (.ref 0), some (.int x1), some (.int x2), some (.int x3), some (.int x4), none, none, none, none, none, none, none] [] σ Q := by
  refine nE_aload_n dX8_odds_0 rfl rfl ?_
  refine nE_iload_n dX8_odds_1 rfl rfl ?_
  obtain ⟨g1, h⟩ := h
  refine nE_callV (As := [.int x1]) yf_X8_noHouse ⟨by decide, by decide⟩ rfl rfl sC_0 rfl vl_X8_143 dX8_odds_2 rfl rfl (Nat.le_of_ble_eq_true rfl) (Nat.le_of_ble_eq_true rfl) (p_X8_noHouse _ g1 ?_)
  refine nE_ifb_ne (tgt := 16) dX8_odds_5 (by decide) ⟨fun c2 => ?_, fun c2 => ?_⟩
  · have h := h.1 c2
    refine nE_ldc kc_X8_147 dX8_odds_16 ?_
    exact nE_iret dX8_odds_18 rfl h
  · have h := h.2 c2
    refine nE_aload_n dX8_odds_8 rfl rfl ?_
    refine nE_iload_n dX8_odds_9 rfl rfl ?_
    refine nE_callV (As := [.int x2]) yf_X8_noHouse ⟨by decide, by decide⟩ rfl rfl sC_0 rfl vl_X8_143 dX8_odds_10 rfl rfl (Nat.le_of_ble_eq_true rfl) (Nat.le_of_ble_eq_true rfl) (p_X8_noHouse _ g1 ?_)
    refine nE_ifb_eq (tgt := 19) dX8_odds_13 (by decide) ⟨fun c3 => ?_, fun c3 => ?_⟩
    · have h := h.1 c3
      refine nE_iload_n dX8_odds_19 rfl rfl ?_
      refine nE_if_lt (tgt := 39) dX8_odds_20 (by decide) ⟨fun c4 => ?_, fun c4 => ?_⟩
      · have h := h.1 c4
        refine nE_ldc kc_X8_93 dX8_odds_39 ?_
        exact nE_iret dX8_odds_41 rfl h
      · have h := h.2 c4
        refine nE_iload_n dX8_odds_23 rfl rfl ?_
        refine nE_iconst (v := 4) dX8_odds_24 (by decide) ?_
        refine nE_icmp_ge (tgt := 39) dX8_odds_25 (by decide) ⟨fun c5 => ?_, fun c5 => ?_⟩
        · have h := h.1 c5
          refine nE_ldc kc_X8_93 dX8_odds_39 ?_
          exact nE_iret dX8_odds_41 rfl h
        · have h := h.2 c5
          refine nE_iload dX8_odds_28 rfl ?_
          refine nE_if_lt (tgt := 39) dX8_odds_30 (by decide) ⟨fun c6 => ?_, fun c6 => ?_⟩
          · have h := h.1 c6
            refine nE_ldc kc_X8_93 dX8_odds_39 ?_
            exact nE_iret dX8_odds_41 rfl h
          · have h := h.2 c6
            refine nE_iload dX8_odds_33 rfl ?_
            refine nE_iconst (v := 1) dX8_odds_35 (by decide) ?_
            refine nE_icmp_le (tgt := 42) dX8_odds_36 (by decide) ⟨fun c7 => ?_, fun c7 => ?_⟩
            · have h := h.1 c7
              refine nE_lconst (v := 0) dX8_odds_42 (by decide) ?_
              refine nE_lstore dX8_odds_43 rfl (by decide) ?_
              refine nE_iconst (v := 0) dX8_odds_45 (by decide) ?_
              refine nE_istore dX8_odds_46 rfl (by decide) ?_
              refine nE_iconst (v := 0) dX8_odds_48 (by decide) ?_
              refine nE_istore dX8_odds_49 rfl (by decide) ?_
              exact h
            · have h := h.2 c7
              refine nE_ldc kc_X8_93 dX8_odds_39 ?_
              exact nE_iret dX8_odds_41 rfl h
    · have h := h.2 c3
      refine nE_ldc kc_X8_147 dX8_odds_16 ?_
      exact nE_iret dX8_odds_18 rfl h
set_option maxRecDepth 20000 in
theorem sg_X8_odds_51 (x1 : Int32) (x2 : Int32) (x3 : Int32) (x4 : Int32) (x5 : Int64) (x7 : Int32) (x8 : Int32) {σ : nh_S} {Q : Option Value → nh_S → Prop} (h : (isP (σ.2.2 0 11)) ∧ ((1 <<< ((σ.1 (σ.2.2 0 11) 0) &&& 31)) - 1 < x8 → (Q (some (.int (if x4 = 0 then (x5 / 1000000).toInt32 else x7))) σ)) ∧ (¬ ((1 <<< ((σ.1 (σ.2.2 0 11) 0) &&& 31)) - 1 < x8) → ((¬ (nh_hs x8 x2) → (nh_E kX3_shareOf 0 [some (.ref (σ.2.2 0 11)), some (.int x8), some (.int x2), some (.int x3), none, none, none, none, none] [] σ (nh_ql fun r9 τ8 => (¬ (0 < r9) → (nh_E kX8_odds 51 [some (.ref 0), some (.int x1), some (.int x2), some (.int x3), some (.int x4), some (.long x5), none, some (.int x7), some (.int (x8 + 1)), none, none, none] [] τ8 Q)) ∧ (0 < r9 → ((isP (τ8.2.2 0 11)) ∧ (isL (τ8.2.2 0 13)) ∧ nh_E kX7_run 0 [some (.ref 12), some (.ref (τ8.2.2 0 11)), some (.ref (τ8.2.2 0 13)), some (.int x2), some (.int x8), none] [] τ8 (nh_qv fun τ14 => (isP (τ14.2.2 0 11)) ∧ nh_E kX5_gather 0 [some (.ref 17), some (.ref (τ14.2.2 0 11)), some (.ref 12), some (.ref 4), some (.int x1), none] [] τ14 (nh_qv fun τ18 => (isP (τ18.2.2 0 11)) ∧ nh_E kX5_run 0 [some (.ref 17), some (.ref (τ18.2.2 0 11)), some (.int ((1 <<< ((τ18.1 (τ18.2.2 0 11) 1) &&& 31)) - 1)), none] [] τ18 (nh_qi fun r23 τ22 => nh_E kX8_odds 51 [some (.ref 0), some (.int x1), some (.int x2), some (.int x3), some (.int x4), some (.long (x5 + (r9 * ((if r23 = (-1) then 500 else r23).toInt64)))), none, some (.int (if x7 < (if r23 = (-1) then 500 else r23) then (if r23 = (-1) then 500 else r23) else x7)), some (.int (x8 + 1)), none, none, none] [] τ22 Q)))))))) ∧ (nh_hs x8 x2 → (nh_E kX8_odds 51 [some (.ref 0), some (.int x1), some (.int x2), some (.int x3), some (.int x4), some (.long x5), none, some (.int x7), some (.int (x8 + 1)), none, none, none] [] σ Q))))) : nh_E kX8_odds 51 [some (.ref 0), some (.int x1), some (.int x2), some (.int x3), some (.int x4), some (.long x5), none, some (.int x7), some (.int x8), none, none, none] [] σ Q := by
  refine nE_iload dX8_odds_51 rfl ?_
  refine nE_aload_n dX8_odds_53 rfl rfl ?_
  obtain ⟨g1, h⟩ := h
  refine nE_getR fl_X8_73 sC_0 rfl dX8_odds_54 ?_
  refine nE_getI fl_X8_117 (sP_0 g1) rfl dX8_odds_57 ?_
  refine nE_callS (As := [.int (σ.1 (σ.2.2 0 11) 0)]) yf_X8_fullSet ⟨by decide, by decide⟩ rfl sl_X8_208 dX8_odds_60 rfl rfl (Nat.le_of_ble_eq_true rfl) (Nat.le_of_ble_eq_true rfl) (p_X8_fullSet _ ?_)
  refine nE_icmp_gt (tgt := 189) dX8_odds_63 (by decide) ⟨fun c2 => ?_, fun c2 => ?_⟩
  · have h := h.1 c2
    refine nE_iload dX8_odds_189 rfl ?_
    have j3 : nh_E kX8_odds 206 [some (.ref 0), some (.int x1), some (.int x2), some (.int x3), some (.int x4), some (.long x5), none, some (.int x7), some (.int x8), none, none, none] [.int (if x4 = 0 then (x5 / 1000000).toInt32 else x7)] σ Q := by
      exact nE_iret dX8_odds_206 rfl h
    refine nE_if_ne (tgt := 204) dX8_odds_191 (by decide) ⟨fun c4 => ?_, fun c4 => ?_⟩
    · skip
      have f5 : (x4 = 0) = False := eq_false c4
      refine nE_iload dX8_odds_204 rfl ?_
      exact nh_topi (show ((if x4 = 0 then (x5 / 1000000).toInt32 else x7) : Int32) = x7 from by simp only [if_true, if_false, not_true_eq_false, not_false_eq_true, true_and, and_true, false_and, and_false, true_or, or_true, false_or, or_false, if_pos, if_neg, ite_true, ite_false, f5]) j3
    · skip
      have f6 : (x4 = 0) = True := eq_true c4
      refine nE_lload dX8_odds_194 rfl ?_
      refine nE_ldc2 kc_X8_241 dX8_odds_196 ?_
      refine nE_ldiv dX8_odds_199 (by decide) ?_
      refine nE_l2i dX8_odds_200 ?_
      refine nE_goto (tgt := 206) dX8_odds_201 (by decide) ?_
      exact nh_topi (show ((if x4 = 0 then (x5 / 1000000).toInt32 else x7) : Int32) = (x5 / 1000000).toInt32 from by simp only [if_true, if_false, not_true_eq_false, not_false_eq_true, true_and, and_true, false_and, and_false, true_or, or_true, false_or, or_false, if_pos, if_neg, ite_true, ite_false, f6]) j3
  · have h := h.2 c2
    refine nE_iload dX8_odds_66 rfl ?_
    refine nE_iload_n dX8_odds_68 rfl rfl ?_
    refine nE_callS (As := [.int x8, .int x2]) yf_X8_has ⟨by decide, by decide⟩ rfl sl_X8_212 dX8_odds_69 rfl rfl (Nat.le_of_ble_eq_true rfl) (Nat.le_of_ble_eq_true rfl) (p_X8_has _ _ ?_)
    refine nE_ifb_eq (tgt := 79) dX8_odds_72 (by decide) ⟨fun c7 => ?_, fun c7 => ?_⟩
    · have h := h.1 c7
      refine nE_aload_n dX8_odds_79 rfl rfl ?_
      refine nE_getR fl_X8_73 sC_0 rfl dX8_odds_80 ?_
      refine nE_iload dX8_odds_83 rfl ?_
      refine nE_iload_n dX8_odds_85 rfl rfl ?_
      refine nE_iload_n dX8_odds_86 rfl rfl ?_
      refine nE_callV (As := [.int x8, .int x2, .int x3]) yf_X3_shareOf ⟨by decide, by decide⟩ rfl rfl (sP_0 g1) rfl vl_X8_215 dX8_odds_87 rfl rfl (Nat.le_of_ble_eq_true rfl) (Nat.le_of_ble_eq_true rfl) (nE_mono (fun z10 τ8 h => ?_) h)
      obtain ⟨r9, rfl, h⟩ := h
      refine nE_lstore dX8_odds_90 rfl (by decide) ?_
      refine nE_lload dX8_odds_92 rfl ?_
      refine nE_lconst (v := 0) dX8_odds_94 (by decide) ?_
      refine nE_lcmp dX8_odds_95 ?_
      refine nE_ifl_le (tgt := 183) dX8_odds_96 (by decide) ⟨fun c11 => ?_, fun c11 => ?_⟩
      · have h := h.1 c11
        refine nE_iinc (v := x8 + 1) dX8_odds_183 rfl rfl (by decide) rfl ?_
        refine nE_goto (tgt := 51) dX8_odds_186 (by decide) ?_
        refine nE_weak 9 ?_
        exact h
      · have h := h.2 c11
        refine nE_aload_n dX8_odds_99 rfl rfl ?_
        refine nE_getC fl_X8_32 sC_0 rfl dX8_odds_100 ?_
        refine nE_aload_n dX8_odds_103 rfl rfl ?_
        obtain ⟨g12, h⟩ := h
        refine nE_getR fl_X8_73 sC_0 rfl dX8_odds_104 ?_
        refine nE_aload_n dX8_odds_107 rfl rfl ?_
        obtain ⟨g13, h⟩ := h
        refine nE_getR fl_X8_83 sC_0 rfl dX8_odds_108 ?_
        refine nE_iload_n dX8_odds_111 rfl rfl ?_
        refine nE_iload dX8_odds_112 rfl ?_
        refine nE_callV (As := [.ref (τ8.2.2 0 11), .ref (τ8.2.2 0 13), .int x2, .int x8]) yf_X7_run ⟨by decide, by decide⟩ rfl rfl sC_12 rfl vl_X8_219 dX8_odds_114 rfl rfl (Nat.le_of_ble_eq_true rfl) (Nat.le_of_ble_eq_true rfl) (nE_mono (fun z16 τ14 h => ?_) h)
        obtain ⟨rfl, h⟩ := h
        refine nE_aload_n dX8_odds_117 rfl rfl ?_
        refine nE_getC fl_X8_39 sC_0 rfl dX8_odds_118 ?_
        refine nE_aload_n dX8_odds_121 rfl rfl ?_
        obtain ⟨g17, h⟩ := h
        refine nE_getR fl_X8_73 sC_0 rfl dX8_odds_122 ?_
        refine nE_aload_n dX8_odds_125 rfl rfl ?_
        refine nE_getC fl_X8_32 sC_0 rfl dX8_odds_126 ?_
        refine nE_aload_n dX8_odds_129 rfl rfl ?_
        refine nE_getC fl_X8_19 sC_0 rfl dX8_odds_130 ?_
        refine nE_getC fl_X8_168 (sN_0 isN_3) rfl dX8_odds_133 ?_
        refine nE_iload_n dX8_odds_136 rfl rfl ?_
        refine nE_callV (As := [.ref (τ14.2.2 0 11), .ref 12, .ref 4, .int x1]) yf_X5_gather ⟨by decide, by decide⟩ rfl rfl (sG_0 isG_17) rfl vl_X8_223 dX8_odds_137 rfl rfl (Nat.le_of_ble_eq_true rfl) (Nat.le_of_ble_eq_true rfl) (nE_mono (fun z20 τ18 h => ?_) h)
        obtain ⟨rfl, h⟩ := h
        refine nE_aload_n dX8_odds_140 rfl rfl ?_
        refine nE_getC fl_X8_39 sC_0 rfl dX8_odds_141 ?_
        refine nE_aload_n dX8_odds_144 rfl rfl ?_
        obtain ⟨g21, h⟩ := h
        refine nE_getR fl_X8_73 sC_0 rfl dX8_odds_145 ?_
        refine nE_aload_n dX8_odds_148 rfl rfl ?_
        refine nE_getR fl_X8_73 sC_0 rfl dX8_odds_149 ?_
        refine nE_callV (As := []) yf_X3_allParts ⟨by decide, by decide⟩ rfl rfl (sP_0 g21) rfl vl_X8_227 dX8_odds_152 rfl rfl (Nat.le_of_ble_eq_true rfl) (Nat.le_of_ble_eq_true rfl) (p_X3_allParts g21 ?_)
        refine nE_callV (As := [.ref (τ18.2.2 0 11), .int ((1 <<< ((τ18.1 (τ18.2.2 0 11) 1) &&& 31)) - 1)]) yf_X5_run ⟨by decide, by decide⟩ rfl rfl (sG_0 isG_17) rfl vl_X8_230 dX8_odds_155 rfl rfl (Nat.le_of_ble_eq_true rfl) (Nat.le_of_ble_eq_true rfl) (nE_mono (fun z24 τ22 h => ?_) h)
        obtain ⟨r23, rfl, h⟩ := h
        refine nE_callS (As := [.int r23]) yf_X8_counted ⟨by decide, by decide⟩ rfl sl_X8_233 dX8_odds_158 rfl rfl (Nat.le_of_ble_eq_true rfl) (Nat.le_of_ble_eq_true rfl) (p_X8_counted _ ?_)
        refine nE_istore dX8_odds_161 rfl (by decide) ?_
        refine nE_lload dX8_odds_163 rfl ?_
        refine nE_lload dX8_odds_165 rfl ?_
        refine nE_iload dX8_odds_167 rfl ?_
        refine nE_i2l dX8_odds_169 ?_
        refine nE_lmul dX8_odds_170 ?_
        refine nE_ladd dX8_odds_171 ?_
        refine nE_lstore dX8_odds_172 rfl (by decide) ?_
        refine nE_iload dX8_odds_174 rfl ?_
        refine nE_iload dX8_odds_176 rfl ?_
        refine nE_mmax mm_X8_236 ⟨by decide, Nat.le_of_ble_eq_true rfl⟩ dX8_odds_178 ?_
        refine nE_istore dX8_odds_181 rfl (by decide) ?_
        refine nE_iinc (v := x8 + 1) dX8_odds_183 rfl rfl (by decide) rfl ?_
        refine nE_goto (tgt := 51) dX8_odds_186 (by decide) ?_
        refine nE_weak 9 ?_
        refine nE_weak 11 ?_
        exact h
    · have h := h.2 c7
      refine nE_lconst (v := 0) dX8_odds_75 (by decide) ?_
      refine nE_goto (tgt := 90) dX8_odds_76 (by decide) ?_
      refine nE_lstore dX8_odds_90 rfl (by decide) ?_
      refine nE_lload dX8_odds_92 rfl ?_
      refine nE_lconst (v := 0) dX8_odds_94 (by decide) ?_
      refine nE_lcmp dX8_odds_95 ?_
      refine nE_ifl_le (tgt := 183) dX8_odds_96 (by decide) ⟨fun c25 => ?_, fun c25 => absurd c25 (by decide)⟩
      refine nE_iinc (v := x8 + 1) dX8_odds_183 rfl rfl (by decide) rfl ?_
      refine nE_goto (tgt := 51) dX8_odds_186 (by decide) ?_
      refine nE_weak 9 ?_
      exact h
set_option maxRecDepth 20000 in
theorem sg_X8_night_0 (x1 : Int32) {σ : nh_S} {Q : Option Value → nh_S → Prop} (h : (x1 < 0 → (Q (some (.int (-1000002))) σ)) ∧ (¬ (x1 < 0) → ((x1 < 4 → (nh_E kX8_night 16 [some (.ref 0), some (.int x1), some (.int 0), some (.int 0)] [] σ Q)) ∧ (¬ (x1 < 4) → (Q (some (.int (-1000002))) σ))))) : nh_E kX8_night 0 [some (.ref 0), some (.int x1), none, none] [] σ Q := by
  refine nE_iload_n dX8_night_0 rfl rfl ?_
  refine nE_if_lt (tgt := 9) dX8_night_1 (by decide) ⟨fun c1 => ?_, fun c1 => ?_⟩
  · have h := h.1 c1
    refine nE_ldc kc_X8_93 dX8_night_9 ?_
    exact nE_iret dX8_night_11 rfl h
  · have h := h.2 c1
    refine nE_iload_n dX8_night_4 rfl rfl ?_
    refine nE_iconst (v := 4) dX8_night_5 (by decide) ?_
    refine nE_icmp_lt (tgt := 12) dX8_night_6 (by decide) ⟨fun c2 => ?_, fun c2 => ?_⟩
    · have h := h.1 c2
      refine nE_iconst (v := 0) dX8_night_12 (by decide) ?_
      refine nE_istore_n dX8_night_13 rfl rfl (by decide) ?_
      refine nE_iconst (v := 0) dX8_night_14 (by decide) ?_
      refine nE_istore_n dX8_night_15 rfl rfl (by decide) ?_
      exact h
    · have h := h.2 c2
      refine nE_ldc kc_X8_93 dX8_night_9 ?_
      exact nE_iret dX8_night_11 rfl h
set_option maxRecDepth 20000 in
theorem sg_X8_night_16 (x1 : Int32) (x2 : Int32) (x3 : Int32) {σ : nh_S} {Q : Option Value → nh_S → Prop} (h : (isP (σ.2.2 0 11)) ∧ (σ.1 (σ.2.2 0 11) 0 ≤ x3 → (Q (some (.int x2)) (nh_si σ 3 2 x2))) ∧ (¬ (σ.1 (σ.2.2 0 11) 0 ≤ x3) → (nh_E kX2_draw 0 [some (.ref 3), some (.int 100)] [] σ (nh_qi fun r4 τ3 => (isP (τ3.2.2 0 11)) ∧ (vp_in x1 4) ∧ (vp_in x3 9) ∧ (τ3.2.1 ((τ3.2.2 0 11) + 4 + x1.toNatClampNeg) x3.toNatClampNeg ≤ r4 → (nh_E kX8_night 16 [some (.ref 0), some (.int x1), some (.int x2), some (.int (x3 + 1))] [] τ3 Q)) ∧ (¬ (τ3.2.1 ((τ3.2.2 0 11) + 4 + x1.toNatClampNeg) x3.toNatClampNeg ≤ r4) → (nh_E kX8_night 16 [some (.ref 0), some (.int x1), some (.int (x2 ||| (1 <<< (x3 &&& 31)))), some (.int (x3 + 1))] [] τ3 Q)))))) : nh_E kX8_night 16 [some (.ref 0), some (.int x1), some (.int x2), some (.int x3)] [] σ Q := by
  refine nE_iload_n dX8_night_16 rfl rfl ?_
  refine nE_aload_n dX8_night_17 rfl rfl ?_
  obtain ⟨g1, h⟩ := h
  refine nE_getR fl_X8_73 sC_0 rfl dX8_night_18 ?_
  refine nE_getI fl_X8_117 (sP_0 g1) rfl dX8_night_21 ?_
  refine nE_icmp_ge (tgt := 62) dX8_night_24 (by decide) ⟨fun c2 => ?_, fun c2 => ?_⟩
  · have h := h.1 c2
    refine nE_aload_n dX8_night_62 rfl rfl ?_
    refine nE_getC fl_X8_19 sC_0 rfl dX8_night_63 ?_
    refine nE_iload_n dX8_night_66 rfl rfl ?_
    refine nE_putI fl_X8_133 (sN_0 isN_3) rfl ⟨rfl, rfl⟩ dX8_night_67 ?_
    refine nE_iload_n dX8_night_70 rfl rfl ?_
    exact nE_iret dX8_night_71 rfl h
  · have h := h.2 c2
    refine nE_aload_n dX8_night_27 rfl rfl ?_
    refine nE_getC fl_X8_19 sC_0 rfl dX8_night_28 ?_
    refine nE_bipush (v := 100) dX8_night_31 (by decide) ?_
    refine nE_callV (As := [.int 100]) yf_X2_draw ⟨by decide, by decide⟩ rfl rfl (sN_0 isN_3) rfl vl_X8_243 dX8_night_33 rfl rfl (Nat.le_of_ble_eq_true rfl) (Nat.le_of_ble_eq_true rfl) (nE_mono (fun z5 τ3 h => ?_) h)
    obtain ⟨r4, rfl, h⟩ := h
    refine nE_aload_n dX8_night_36 rfl rfl ?_
    obtain ⟨g6, h⟩ := h
    refine nE_getR fl_X8_73 sC_0 rfl dX8_night_37 ?_
    refine nE_getC fl_X8_154 (sP_0 g6) rfl dX8_night_40 ?_
    refine nE_iload_n dX8_night_43 rfl rfl ?_
    obtain ⟨g7, h⟩ := h
    refine nG_aald (j := x1.toNatClampNeg) (sP_3 g6) rfl dX8_night_44 ⟨g7, ?_⟩
    refine nE_iload_n dX8_night_45 rfl rfl ?_
    obtain ⟨g8, h⟩ := h
    refine nG_iald (j := x3.toNatClampNeg) (sP_r3 g6 g7) rfl dX8_night_46 ⟨g8, ?_⟩
    refine nE_icmp_ge (tgt := 56) dX8_night_47 (by decide) ⟨fun c9 => ?_, fun c9 => ?_⟩
    · have h := h.1 c9
      refine nE_iinc (v := x3 + 1) dX8_night_56 rfl rfl (by decide) rfl ?_
      refine nE_goto (tgt := 16) dX8_night_59 (by decide) ?_
      exact h
    · have h := h.2 c9
      refine nE_iload_n dX8_night_50 rfl rfl ?_
      refine nE_iconst (v := 1) dX8_night_51 (by decide) ?_
      refine nE_iload_n dX8_night_52 rfl rfl ?_
      refine nE_ishl dX8_night_53 ?_
      refine nE_ior dX8_night_54 ?_
      refine nE_istore_n dX8_night_55 rfl rfl (by decide) ?_
      refine nE_iinc (v := x3 + 1) dX8_night_56 rfl rfl (by decide) rfl ?_
      refine nE_goto (tgt := 16) dX8_night_59 (by decide) ?_
      exact h
set_option maxRecDepth 20000 in
theorem sg_X8_crier_0 (x1 : Int32) (x2 : Int32) (x3 : Int32) {σ : nh_S} {Q : Option Value → nh_S → Prop} (h : (isP (σ.2.2 0 11)) ∧ ((x1 < 0) ∨ ¬ (x1 < σ.1 (σ.2.2 0 11) 0) → (Q (some (.int (-1000001))) σ)) ∧ (¬ ((x1 < 0) ∨ ¬ (x1 < σ.1 (σ.2.2 0 11) 0)) → ((¬ ((x2 < 0) ∨ ¬ (x2 < σ.1 (σ.2.2 0 11) 0)) → (nh_E kX0_sendOut 0 [some (.ref 25), some (.ref (σ.2.2 0 11)), some (.ref 3), some (.int x2), none] [] σ (nh_qi fun r5 τ4 => (¬ (r5 = 0) → ((isP (τ4.2.2 0 11)) ∧ nh_E kX0_search 0 [some (.ref 25), some (.ref (τ4.2.2 0 11)), some (.ref 3), some (.ref 12), some (.ref 17), some (.int x1), none, none] [] τ4 (nh_qv fun τ9 => (¬ (x3 = (-1)) → ((x3 < 0 → (Q (some (.int (-1))) τ9)) ∧ (¬ (x3 < 0) → ((x3 < τ9.1 27 0 → ((vp_in x3 7) ∧ Q (some (.int (τ9.2.1 26 x3.toNatClampNeg))) τ9)) ∧ (¬ (x3 < τ9.1 27 0) → (Q (some (.int (-1))) τ9)))))) ∧ (x3 = (-1) → (Q (some (.int (τ9.1 25 2))) τ9))))) ∧ (r5 = 0 → (Q (some (.int (-1000003))) τ4))))) ∧ ((x2 < 0) ∨ ¬ (x2 < σ.1 (σ.2.2 0 11) 0) → (Q (some (.int (-1000001))) σ))))) : nh_E kX8_crier 0 [some (.ref 0), some (.int x1), some (.int x2), some (.int x3)] [] σ Q := by
  refine nE_aload_n dX8_crier_0 rfl rfl ?_
  refine nE_iload_n dX8_crier_1 rfl rfl ?_
  obtain ⟨g1, h⟩ := h
  refine nE_callV (As := [.int x1]) yf_X8_noHouse ⟨by decide, by decide⟩ rfl rfl sC_0 rfl vl_X8_143 dX8_crier_2 rfl rfl (Nat.le_of_ble_eq_true rfl) (Nat.le_of_ble_eq_true rfl) (p_X8_noHouse _ g1 ?_)
  refine nE_ifb_ne (tgt := 16) dX8_crier_5 (by decide) ⟨fun c2 => ?_, fun c2 => ?_⟩
  · have h := h.1 c2
    refine nE_ldc kc_X8_147 dX8_crier_16 ?_
    exact nE_iret dX8_crier_18 rfl h
  · have h := h.2 c2
    refine nE_aload_n dX8_crier_8 rfl rfl ?_
    refine nE_iload_n dX8_crier_9 rfl rfl ?_
    refine nE_callV (As := [.int x2]) yf_X8_noHouse ⟨by decide, by decide⟩ rfl rfl sC_0 rfl vl_X8_143 dX8_crier_10 rfl rfl (Nat.le_of_ble_eq_true rfl) (Nat.le_of_ble_eq_true rfl) (p_X8_noHouse _ g1 ?_)
    refine nE_ifb_eq (tgt := 19) dX8_crier_13 (by decide) ⟨fun c3 => ?_, fun c3 => ?_⟩
    · have h := h.1 c3
      refine nE_aload_n dX8_crier_19 rfl rfl ?_
      refine nE_getC fl_X8_49 sC_0 rfl dX8_crier_20 ?_
      refine nE_aload_n dX8_crier_23 rfl rfl ?_
      refine nE_getR fl_X8_73 sC_0 rfl dX8_crier_24 ?_
      refine nE_aload_n dX8_crier_27 rfl rfl ?_
      refine nE_getC fl_X8_19 sC_0 rfl dX8_crier_28 ?_
      refine nE_iload_n dX8_crier_31 rfl rfl ?_
      refine nE_callV (As := [.ref (σ.2.2 0 11), .ref 3, .int x2]) yf_X0_sendOut ⟨by decide, by decide⟩ rfl rfl sC_25 rfl vl_X8_246 dX8_crier_32 rfl rfl (Nat.le_of_ble_eq_true rfl) (Nat.le_of_ble_eq_true rfl) (nE_mono (fun z6 τ4 h => ?_) h)
      obtain ⟨r5, rfl, h⟩ := h
      refine nE_if_ne (tgt := 41) dX8_crier_35 (by decide) ⟨fun c7 => ?_, fun c7 => ?_⟩
      · have h := h.1 c7
        refine nE_aload_n dX8_crier_41 rfl rfl ?_
        refine nE_getC fl_X8_49 sC_0 rfl dX8_crier_42 ?_
        refine nE_aload_n dX8_crier_45 rfl rfl ?_
        obtain ⟨g8, h⟩ := h
        refine nE_getR fl_X8_73 sC_0 rfl dX8_crier_46 ?_
        refine nE_aload_n dX8_crier_49 rfl rfl ?_
        refine nE_getC fl_X8_19 sC_0 rfl dX8_crier_50 ?_
        refine nE_aload_n dX8_crier_53 rfl rfl ?_
        refine nE_getC fl_X8_32 sC_0 rfl dX8_crier_54 ?_
        refine nE_aload_n dX8_crier_57 rfl rfl ?_
        refine nE_getC fl_X8_39 sC_0 rfl dX8_crier_58 ?_
        refine nE_iload_n dX8_crier_61 rfl rfl ?_
        refine nE_callV (As := [.ref (τ4.2.2 0 11), .ref 3, .ref 12, .ref 17, .int x1]) yf_X0_search ⟨by decide, by decide⟩ rfl rfl sC_25 rfl vl_X8_250 dX8_crier_62 rfl rfl (Nat.le_of_ble_eq_true rfl) (Nat.le_of_ble_eq_true rfl) (nE_mono (fun z11 τ9 h => ?_) h)
        obtain ⟨rfl, h⟩ := h
        refine nE_iload_n dX8_crier_65 rfl rfl ?_
        refine nE_iconst (v := (-1)) dX8_crier_66 (by decide) ?_
        refine nE_icmp_ne (tgt := 78) dX8_crier_67 (by decide) ⟨fun c12 => ?_, fun c12 => ?_⟩
        · have h := h.1 c12
          refine nE_iload_n dX8_crier_78 rfl rfl ?_
          refine nE_if_lt (tgt := 96) dX8_crier_79 (by decide) ⟨fun c13 => ?_, fun c13 => ?_⟩
          · have h := h.1 c13
            refine nE_iconst (v := (-1)) dX8_crier_96 (by decide) ?_
            exact nE_iret dX8_crier_97 rfl h
          · have h := h.2 c13
            refine nE_iload_n dX8_crier_82 rfl rfl ?_
            refine nE_aload_n dX8_crier_83 rfl rfl ?_
            refine nE_getC fl_X8_49 sC_0 rfl dX8_crier_84 ?_
            refine nE_getC fl_X8_257 sC_25 rfl dX8_crier_87 ?_
            refine nE_getI fl_X8_124 (sL_0 isL_27) rfl dX8_crier_90 ?_
            refine nE_icmp_lt (tgt := 98) dX8_crier_93 (by decide) ⟨fun c14 => ?_, fun c14 => ?_⟩
            · have h := h.1 c14
              refine nE_aload_n dX8_crier_98 rfl rfl ?_
              refine nE_getC fl_X8_49 sC_0 rfl dX8_crier_99 ?_
              refine nE_getC fl_X8_258 sC_25 rfl dX8_crier_102 ?_
              refine nE_iload_n dX8_crier_105 rfl rfl ?_
              obtain ⟨g15, h⟩ := h
              refine nG_iald (j := x3.toNatClampNeg) sC_26 rfl dX8_crier_106 ⟨g15, ?_⟩
              exact nE_iret dX8_crier_107 rfl h
            · have h := h.2 c14
              refine nE_iconst (v := (-1)) dX8_crier_96 (by decide) ?_
              exact nE_iret dX8_crier_97 rfl h
        · have h := h.2 c12
          refine nE_aload_n dX8_crier_70 rfl rfl ?_
          refine nE_getC fl_X8_49 sC_0 rfl dX8_crier_71 ?_
          refine nE_getI fl_X8_254 sC_25 rfl dX8_crier_74 ?_
          exact nE_iret dX8_crier_77 rfl h
      · have h := h.2 c7
        refine nE_ldc kc_X8_120 dX8_crier_38 ?_
        exact nE_iret dX8_crier_40 rfl h
    · have h := h.2 c3
      refine nE_ldc kc_X8_147 dX8_crier_16 ?_
      exact nE_iret dX8_crier_18 rfl h
set_option maxRecDepth 20000 in
theorem sg_X8_keepAt_0 (x1 : Int32) (x2 : Int32) {σ : nh_S} {Q : Option Value → nh_S → Prop} (h : (isP (σ.2.2 0 11)) ∧ ((x1 < 0) ∨ ¬ (x1 < σ.1 (σ.2.2 0 11) 1) → (Q (some (.int (-1000001))) σ)) ∧ (¬ ((x1 < 0) ∨ ¬ (x1 < σ.1 (σ.2.2 0 11) 1)) → ((¬ ((x2 < 0) ∨ ¬ (x2 < σ.1 (σ.2.2 0 11) 0)) → ((vp_in x1 12) ∧ Q (some (.int (σ.2.1 4 x1.toNatClampNeg))) (nh_wa σ 4 x1.toNatClampNeg x2))) ∧ ((x2 < 0) ∨ ¬ (x2 < σ.1 (σ.2.2 0 11) 0) → (Q (some (.int (-1000001))) σ))))) : nh_E kX8_keepAt 0 [some (.ref 0), some (.int x1), some (.int x2), none] [] σ Q := by
  refine nE_aload_n dX8_keepAt_0 rfl rfl ?_
  refine nE_iload_n dX8_keepAt_1 rfl rfl ?_
  obtain ⟨g1, h⟩ := h
  refine nE_callV (As := [.int x1]) yf_X8_noPart ⟨by decide, by decide⟩ rfl rfl sC_0 rfl vl_X8_165 dX8_keepAt_2 rfl rfl (Nat.le_of_ble_eq_true rfl) (Nat.le_of_ble_eq_true rfl) (p_X8_noPart _ g1 ?_)
  refine nE_ifb_ne (tgt := 16) dX8_keepAt_5 (by decide) ⟨fun c2 => ?_, fun c2 => ?_⟩
  · have h := h.1 c2
    refine nE_ldc kc_X8_147 dX8_keepAt_16 ?_
    exact nE_iret dX8_keepAt_18 rfl h
  · have h := h.2 c2
    refine nE_aload_n dX8_keepAt_8 rfl rfl ?_
    refine nE_iload_n dX8_keepAt_9 rfl rfl ?_
    refine nE_callV (As := [.int x2]) yf_X8_noHouse ⟨by decide, by decide⟩ rfl rfl sC_0 rfl vl_X8_143 dX8_keepAt_10 rfl rfl (Nat.le_of_ble_eq_true rfl) (Nat.le_of_ble_eq_true rfl) (p_X8_noHouse _ g1 ?_)
    refine nE_ifb_eq (tgt := 19) dX8_keepAt_13 (by decide) ⟨fun c3 => ?_, fun c3 => ?_⟩
    · have h := h.1 c3
      refine nE_aload_n dX8_keepAt_19 rfl rfl ?_
      refine nE_getC fl_X8_19 sC_0 rfl dX8_keepAt_20 ?_
      refine nE_getC fl_X8_168 (sN_0 isN_3) rfl dX8_keepAt_23 ?_
      refine nE_iload_n dX8_keepAt_26 rfl rfl ?_
      obtain ⟨g4, h⟩ := h
      refine nG_iald (j := x1.toNatClampNeg) (sN_1 isN_3) rfl dX8_keepAt_27 ⟨g4, ?_⟩
      refine nE_istore_n dX8_keepAt_28 rfl rfl (by decide) ?_
      refine nE_aload_n dX8_keepAt_29 rfl rfl ?_
      refine nE_getC fl_X8_19 sC_0 rfl dX8_keepAt_30 ?_
      refine nE_getC fl_X8_168 (sN_0 isN_3) rfl dX8_keepAt_33 ?_
      refine nE_iload_n dX8_keepAt_36 rfl rfl ?_
      refine nE_iload_n dX8_keepAt_37 rfl rfl ?_
      refine nG_iast (j := x1.toNatClampNeg) (sN_1 isN_3) rfl dX8_keepAt_38 ⟨g4, ?_⟩
      refine nE_iload_n dX8_keepAt_39 rfl rfl ?_
      exact nE_iret dX8_keepAt_40 rfl h
    · have h := h.2 c3
      refine nE_ldc kc_X8_147 dX8_keepAt_16 ?_
      exact nE_iret dX8_keepAt_18 rfl h
set_option maxRecDepth 20000 in
theorem sg_X8_kept_0 (x1 : Int32) (x2 : Int32) (x3 : Int32) {σ : nh_S} {Q : Option Value → nh_S → Prop} (h : (isP (σ.2.2 0 11)) ∧ (¬ ((x1 < 0) ∨ ¬ (x1 < σ.1 (σ.2.2 0 11) 0)) → ((x2 < 0 → (Q (some (.int (-1000002))) σ)) ∧ (¬ (x2 < 0) → ((999 < x2 → (Q (some (.int (-1000002))) σ)) ∧ (¬ (999 < x2) → ((x3 < 0 → (Q (some (.int (-1000002))) σ)) ∧ (¬ (x3 < 0) → ((x3 ≤ 4 → ((isL (σ.2.2 0 13)) ∧ nh_E kX7_run 0 [some (.ref 12), some (.ref (σ.2.2 0 11)), some (.ref (σ.2.2 0 13)), some (.int x1), some (.int 0), none] [] σ (nh_qv fun τ8 => (isP (τ8.2.2 0 11)) ∧ nh_E kX1_find 0 [some (.ref 83), some (.ref (τ8.2.2 0 11)), some (.ref 12), some (.ref 4), some (.int x2), none, none] [] τ8 (nh_qv fun τ12 => (¬ (x3 = 0) → (((x3 - 1) / 2 < τ12.1 83 0 → (((¬ (x3 - x3 / 2 * 2 = 1) → (vp_in ((x3 - 1) / 2) 2)) ∧ ((x3 - x3 / 2 * 2 = 1) → (vp_in ((x3 - 1) / 2) 2))) ∧ Q (some (.int (if x3 - x3 / 2 * 2 = 1 then τ12.2.1 84 (((x3 - 1) / 2).toNatClampNeg) else τ12.2.1 85 (((x3 - 1) / 2).toNatClampNeg)))) τ12)) ∧ (¬ ((x3 - 1) / 2 < τ12.1 83 0) → (Q (some (.int (-1))) τ12)))) ∧ (x3 = 0 → (Q (some (.int (τ12.1 83 0))) τ12)))))) ∧ (¬ (x3 ≤ 4) → (Q (some (.int (-1000002))) σ)))))))))) ∧ ((x1 < 0) ∨ ¬ (x1 < σ.1 (σ.2.2 0 11) 0) → (Q (some (.int (-1000001))) σ))) : nh_E kX8_kept 0 [some (.ref 0), some (.int x1), some (.int x2), some (.int x3), none] [] σ Q := by
  refine nE_aload_n dX8_kept_0 rfl rfl ?_
  refine nE_iload_n dX8_kept_1 rfl rfl ?_
  obtain ⟨g1, h⟩ := h
  refine nE_callV (As := [.int x1]) yf_X8_noHouse ⟨by decide, by decide⟩ rfl rfl sC_0 rfl vl_X8_143 dX8_kept_2 rfl rfl (Nat.le_of_ble_eq_true rfl) (Nat.le_of_ble_eq_true rfl) (p_X8_noHouse _ g1 ?_)
  refine nE_ifb_eq (tgt := 11) dX8_kept_5 (by decide) ⟨fun c2 => ?_, fun c2 => ?_⟩
  · have h := h.1 c2
    refine nE_iload_n dX8_kept_11 rfl rfl ?_
    refine nE_if_lt (tgt := 31) dX8_kept_12 (by decide) ⟨fun c3 => ?_, fun c3 => ?_⟩
    · have h := h.1 c3
      refine nE_ldc kc_X8_93 dX8_kept_31 ?_
      exact nE_iret dX8_kept_33 rfl h
    · have h := h.2 c3
      refine nE_iload_n dX8_kept_15 rfl rfl ?_
      refine nE_sipush (v := 999) dX8_kept_16 (by decide) ?_
      refine nE_icmp_gt (tgt := 31) dX8_kept_19 (by decide) ⟨fun c4 => ?_, fun c4 => ?_⟩
      · have h := h.1 c4
        refine nE_ldc kc_X8_93 dX8_kept_31 ?_
        exact nE_iret dX8_kept_33 rfl h
      · have h := h.2 c4
        refine nE_iload_n dX8_kept_22 rfl rfl ?_
        refine nE_if_lt (tgt := 31) dX8_kept_23 (by decide) ⟨fun c5 => ?_, fun c5 => ?_⟩
        · have h := h.1 c5
          refine nE_ldc kc_X8_93 dX8_kept_31 ?_
          exact nE_iret dX8_kept_33 rfl h
        · have h := h.2 c5
          refine nE_iload_n dX8_kept_26 rfl rfl ?_
          refine nE_iconst (v := 4) dX8_kept_27 (by decide) ?_
          refine nE_icmp_le (tgt := 34) dX8_kept_28 (by decide) ⟨fun c6 => ?_, fun c6 => ?_⟩
          · have h := h.1 c6
            refine nE_aload_n dX8_kept_34 rfl rfl ?_
            refine nE_getC fl_X8_32 sC_0 rfl dX8_kept_35 ?_
            refine nE_aload_n dX8_kept_38 rfl rfl ?_
            refine nE_getR fl_X8_73 sC_0 rfl dX8_kept_39 ?_
            refine nE_aload_n dX8_kept_42 rfl rfl ?_
            obtain ⟨g7, h⟩ := h
            refine nE_getR fl_X8_83 sC_0 rfl dX8_kept_43 ?_
            refine nE_iload_n dX8_kept_46 rfl rfl ?_
            refine nE_iconst (v := 0) dX8_kept_47 (by decide) ?_
            refine nE_callV (As := [.ref (σ.2.2 0 11), .ref (σ.2.2 0 13), .int x1, .int 0]) yf_X7_run ⟨by decide, by decide⟩ rfl rfl sC_12 rfl vl_X8_219 dX8_kept_48 rfl rfl (Nat.le_of_ble_eq_true rfl) (Nat.le_of_ble_eq_true rfl) (nE_mono (fun z10 τ8 h => ?_) h)
            obtain ⟨rfl, h⟩ := h
            refine nE_aload_n dX8_kept_51 rfl rfl ?_
            refine nE_getC fl_X8_56 sC_0 rfl dX8_kept_52 ?_
            refine nE_aload_n dX8_kept_55 rfl rfl ?_
            obtain ⟨g11, h⟩ := h
            refine nE_getR fl_X8_73 sC_0 rfl dX8_kept_56 ?_
            refine nE_aload_n dX8_kept_59 rfl rfl ?_
            refine nE_getC fl_X8_32 sC_0 rfl dX8_kept_60 ?_
            refine nE_aload_n dX8_kept_63 rfl rfl ?_
            refine nE_getC fl_X8_19 sC_0 rfl dX8_kept_64 ?_
            refine nE_getC fl_X8_168 (sN_0 isN_3) rfl dX8_kept_67 ?_
            refine nE_iload_n dX8_kept_70 rfl rfl ?_
            refine nE_callV (As := [.ref (τ8.2.2 0 11), .ref 12, .ref 4, .int x2]) yf_X1_find ⟨by decide, by decide⟩ rfl rfl sC_83 rfl vl_X8_261 dX8_kept_71 rfl rfl (Nat.le_of_ble_eq_true rfl) (Nat.le_of_ble_eq_true rfl) (nE_mono (fun z14 τ12 h => ?_) h)
            obtain ⟨rfl, h⟩ := h
            refine nE_iload_n dX8_kept_74 rfl rfl ?_
            refine nE_if_ne (tgt := 86) dX8_kept_75 (by decide) ⟨fun c15 => ?_, fun c15 => ?_⟩
            · have h := h.1 c15
              refine nE_iload_n dX8_kept_86 rfl rfl ?_
              refine nE_iconst (v := 1) dX8_kept_87 (by decide) ?_
              refine nE_isub dX8_kept_88 ?_
              refine nE_iconst (v := 2) dX8_kept_89 (by decide) ?_
              refine nE_idiv dX8_kept_90 (by decide) ?_
              refine nE_istore dX8_kept_91 rfl (by decide) ?_
              refine nE_iload dX8_kept_93 rfl ?_
              refine nE_aload_n dX8_kept_95 rfl rfl ?_
              refine nE_getC fl_X8_56 sC_0 rfl dX8_kept_96 ?_
              refine nE_getI fl_X8_264 sC_83 rfl dX8_kept_99 ?_
              refine nE_icmp_lt (tgt := 107) dX8_kept_102 (by decide) ⟨fun c16 => ?_, fun c16 => ?_⟩
              · have h := h.1 c16
                refine nE_iload_n dX8_kept_107 rfl rfl ?_
                refine nE_iconst (v := 2) dX8_kept_108 (by decide) ?_
                refine nE_irem dX8_kept_109 (by decide) ?_
                refine nE_iconst (v := 1) dX8_kept_110 (by decide) ?_
                obtain ⟨u19, h⟩ := h
                have j20 : nh_E kX8_kept 137 [some (.ref 0), some (.int x1), some (.int x2), some (.int x3), some (.int ((x3 - 1) / 2))] [.int (if x3 - x3 / 2 * 2 = 1 then τ12.2.1 84 (((x3 - 1) / 2).toNatClampNeg) else τ12.2.1 85 (((x3 - 1) / 2).toNatClampNeg))] τ12 Q := by
                  exact nE_iret dX8_kept_137 rfl h
                obtain ⟨u21, u22⟩ := u19
                refine nE_icmp_ne (tgt := 127) dX8_kept_111 (by decide) ⟨fun c23 => ?_, fun c23 => ?_⟩
                · skip
                  have f24 : (x3 - x3 / 2 * 2 = 1) = False := eq_false c23
                  have g17 := (u21 c23)
                  refine nE_aload_n dX8_kept_127 rfl rfl ?_
                  refine nE_getC fl_X8_56 sC_0 rfl dX8_kept_128 ?_
                  refine nE_getC fl_X8_268 sC_83 rfl dX8_kept_131 ?_
                  refine nE_iload dX8_kept_134 rfl ?_
                  refine nG_iald (j := ((x3 - 1) / 2).toNatClampNeg) sC_85 rfl dX8_kept_136 ⟨g17, ?_⟩
                  exact nh_topi (show ((if x3 - x3 / 2 * 2 = 1 then τ12.2.1 84 (((x3 - 1) / 2).toNatClampNeg) else τ12.2.1 85 (((x3 - 1) / 2).toNatClampNeg)) : Int32) = τ12.2.1 85 (((x3 - 1) / 2).toNatClampNeg) from by simp only [if_true, if_false, not_true_eq_false, not_false_eq_true, true_and, and_true, false_and, and_false, true_or, or_true, false_or, or_false, if_pos, if_neg, ite_true, ite_false, f24]) j20
                · skip
                  have f25 : (x3 - x3 / 2 * 2 = 1) = True := eq_true c23
                  have g18 := (u22 c23)
                  refine nE_aload_n dX8_kept_114 rfl rfl ?_
                  refine nE_getC fl_X8_56 sC_0 rfl dX8_kept_115 ?_
                  refine nE_getC fl_X8_265 sC_83 rfl dX8_kept_118 ?_
                  refine nE_iload dX8_kept_121 rfl ?_
                  refine nG_iald (j := ((x3 - 1) / 2).toNatClampNeg) sC_84 rfl dX8_kept_123 ⟨g18, ?_⟩
                  refine nE_goto (tgt := 137) dX8_kept_124 (by decide) ?_
                  exact nh_topi (show ((if x3 - x3 / 2 * 2 = 1 then τ12.2.1 84 (((x3 - 1) / 2).toNatClampNeg) else τ12.2.1 85 (((x3 - 1) / 2).toNatClampNeg)) : Int32) = τ12.2.1 84 (((x3 - 1) / 2).toNatClampNeg) from by simp only [if_true, if_false, not_true_eq_false, not_false_eq_true, true_and, and_true, false_and, and_false, true_or, or_true, false_or, or_false, if_pos, if_neg, ite_true, ite_false, f25]) j20
              · have h := h.2 c16
                refine nE_iconst (v := (-1)) dX8_kept_105 (by decide) ?_
                exact nE_iret dX8_kept_106 rfl h
            · have h := h.2 c15
              refine nE_aload_n dX8_kept_78 rfl rfl ?_
              refine nE_getC fl_X8_56 sC_0 rfl dX8_kept_79 ?_
              refine nE_getI fl_X8_264 sC_83 rfl dX8_kept_82 ?_
              exact nE_iret dX8_kept_85 rfl h
          · have h := h.2 c6
            refine nE_ldc kc_X8_93 dX8_kept_31 ?_
            exact nE_iret dX8_kept_33 rfl h
  · have h := h.2 c2
    refine nE_ldc kc_X8_147 dX8_kept_8 ?_
    exact nE_iret dX8_kept_10 rfl h
set_option maxRecDepth 20000 in
theorem sg_X8_reach_0 (x1 : Int32) {σ : nh_S} {Q : Option Value → nh_S → Prop} (h : (isP (σ.2.2 0 11)) ∧ (¬ (¬ (x1 &&& (((1 <<< ((σ.1 (σ.2.2 0 11) 1) &&& 31)) - 1) ^^^ (-1)) = 0)) → (nh_E kX3_canBeIn 0 [some (.ref (σ.2.2 0 11)), some (.int x1), none, none] [] σ (nh_qi fun r4 τ3 => nh_E kX3_gainOf 0 [some (.ref (σ.2.2 0 11)), some (.int r4), none, none] [] τ3 (nh_qi fun r7 τ6 => Q (some (.int r7)) τ6)))) ∧ (¬ (x1 &&& (((1 <<< ((σ.1 (σ.2.2 0 11) 1) &&& 31)) - 1) ^^^ (-1)) = 0) → (Q (some (.int (-1000001))) σ))) : nh_E kX8_reach 0 [some (.ref 0), some (.int x1)] [] σ Q := by
  refine nE_iload_n dX8_reach_0 rfl rfl ?_
  refine nE_aload_n dX8_reach_1 rfl rfl ?_
  obtain ⟨g1, h⟩ := h
  refine nE_getR fl_X8_73 sC_0 rfl dX8_reach_2 ?_
  refine nE_getI fl_X8_130 (sP_0 g1) rfl dX8_reach_5 ?_
  refine nE_callS (As := [.int x1, .int (σ.1 (σ.2.2 0 11) 1)]) yf_X8_beyond ⟨by decide, by decide⟩ rfl sl_X8_183 dX8_reach_8 rfl rfl (Nat.le_of_ble_eq_true rfl) (Nat.le_of_ble_eq_true rfl) (p_X8_beyond _ _ ?_)
  refine nE_ifb_eq (tgt := 17) dX8_reach_11 (by decide) ⟨fun c2 => ?_, fun c2 => ?_⟩
  · have h := h.1 c2
    refine nE_aload_n dX8_reach_17 rfl rfl ?_
    refine nE_getR fl_X8_73 sC_0 rfl dX8_reach_18 ?_
    refine nE_aload_n dX8_reach_21 rfl rfl ?_
    refine nE_getR fl_X8_73 sC_0 rfl dX8_reach_22 ?_
    refine nE_iload_n dX8_reach_25 rfl rfl ?_
    refine nE_callV (As := [.int x1]) yf_X3_canBeIn ⟨by decide, by decide⟩ rfl rfl (sP_0 g1) rfl vl_X8_271 dX8_reach_26 rfl rfl (Nat.le_of_ble_eq_true rfl) (Nat.le_of_ble_eq_true rfl) (nE_mono (fun z5 τ3 h => ?_) h)
    obtain ⟨r4, rfl, h⟩ := h
    refine nE_callV (As := [.int r4]) yf_X3_gainOf ⟨by decide, by decide⟩ rfl rfl (sP_0 g1) rfl vl_X8_274 dX8_reach_29 rfl rfl (Nat.le_of_ble_eq_true rfl) (Nat.le_of_ble_eq_true rfl) (nE_mono (fun z8 τ6 h => ?_) h)
    obtain ⟨r7, rfl, h⟩ := h
    exact nE_iret dX8_reach_32 rfl h
  · have h := h.2 c2
    refine nE_ldc kc_X8_147 dX8_reach_14 ?_
    exact nE_iret dX8_reach_16 rfl h
set_option maxRecDepth 20000 in
theorem sg_X8_needed_0 (x1 : Int32) {σ : nh_S} {Q : Option Value → nh_S → Prop} (h : (x1 < 0 → (Q (some (.int (-1000002))) σ)) ∧ (¬ (x1 < 0) → ((x1 ≤ 9999 → (nh_E kX8_needed 18 [some (.ref 0), some (.int x1), some (.int (-1)), some (.int 0), none] [] σ Q)) ∧ (¬ (x1 ≤ 9999) → (Q (some (.int (-1000002))) σ))))) : nh_E kX8_needed 0 [some (.ref 0), some (.int x1), none, none, none] [] σ Q := by
  refine nE_iload_n dX8_needed_0 rfl rfl ?_
  refine nE_if_lt (tgt := 11) dX8_needed_1 (by decide) ⟨fun c1 => ?_, fun c1 => ?_⟩
  · have h := h.1 c1
    refine nE_ldc kc_X8_93 dX8_needed_11 ?_
    exact nE_iret dX8_needed_13 rfl h
  · have h := h.2 c1
    refine nE_iload_n dX8_needed_4 rfl rfl ?_
    refine nE_sipush (v := 9999) dX8_needed_5 (by decide) ?_
    refine nE_icmp_le (tgt := 14) dX8_needed_8 (by decide) ⟨fun c2 => ?_, fun c2 => ?_⟩
    · have h := h.1 c2
      refine nE_iconst (v := (-1)) dX8_needed_14 (by decide) ?_
      refine nE_istore_n dX8_needed_15 rfl rfl (by decide) ?_
      refine nE_iconst (v := 0) dX8_needed_16 (by decide) ?_
      refine nE_istore_n dX8_needed_17 rfl rfl (by decide) ?_
      exact h
    · have h := h.2 c2
      refine nE_ldc kc_X8_93 dX8_needed_11 ?_
      exact nE_iret dX8_needed_13 rfl h
set_option maxRecDepth 20000 in
theorem sg_X8_needed_18 (x1 : Int32) (x2 : Int32) (x3 : Int32) {σ : nh_S} {Q : Option Value → nh_S → Prop} (h : (isP (σ.2.2 0 11)) ∧ ((1 <<< ((σ.1 (σ.2.2 0 11) 1) &&& 31)) - 1 < x3 → (Q (some (.int x2)) σ)) ∧ (¬ ((1 <<< ((σ.1 (σ.2.2 0 11) 1) &&& 31)) - 1 < x3) → ((x2 = (-1) → (nh_E kX3_canBeIn 0 [some (.ref (σ.2.2 0 11)), some (.int x3), none, none] [] σ (nh_qi fun r6 τ5 => nh_E kX3_gainOf 0 [some (.ref (σ.2.2 0 11)), some (.int r6), none, none] [] τ5 (nh_qi fun r9 τ8 => (r9 < x1 → (nh_E kX8_needed 18 [some (.ref 0), some (.int x1), some (.int x2), some (.int (x3 + 1)), none] [] τ8 Q)) ∧ (¬ (r9 < x1) → (nh_E kX8_needed 18 [some (.ref 0), some (.int x1), some (.int x3), some (.int (x3 + 1)), none] [] τ8 Q)))))) ∧ (¬ (x2 = (-1)) → (nh_E kJ6_bitCount_0f7a4 0 [some (.int x3)] [] σ (nh_qi fun r13 τ12 => nh_E kJ6_bitCount_0f7a4 0 [some (.int x2)] [] τ12 (nh_qi fun r16 τ15 => (¬ (¬ (r16 ≤ r13)) → (nh_E kX8_needed 18 [some (.ref 0), some (.int x1), some (.int x2), some (.int (x3 + 1)), none] [] τ15 Q)) ∧ (¬ (r16 ≤ r13) → ((isP (τ15.2.2 0 11)) ∧ nh_E kX3_canBeIn 0 [some (.ref (τ15.2.2 0 11)), some (.int x3), none, none] [] τ15 (nh_qi fun r21 τ20 => nh_E kX3_gainOf 0 [some (.ref (τ15.2.2 0 11)), some (.int r21), none, none] [] τ20 (nh_qi fun r24 τ23 => (r24 < x1 → (nh_E kX8_needed 18 [some (.ref 0), some (.int x1), some (.int x2), some (.int (x3 + 1)), none] [] τ23 Q)) ∧ (¬ (r24 < x1) → (nh_E kX8_needed 18 [some (.ref 0), some (.int x1), some (.int x3), some (.int (x3 + 1)), none] [] τ23 Q))))))))))))) : nh_E kX8_needed 18 [some (.ref 0), some (.int x1), some (.int x2), some (.int x3), none] [] σ Q := by
  refine nE_iload_n dX8_needed_18 rfl rfl ?_
  refine nE_aload_n dX8_needed_19 rfl rfl ?_
  obtain ⟨g1, h⟩ := h
  refine nE_getR fl_X8_73 sC_0 rfl dX8_needed_20 ?_
  refine nE_callV (As := []) yf_X3_allParts ⟨by decide, by decide⟩ rfl rfl (sP_0 g1) rfl vl_X8_227 dX8_needed_23 rfl rfl (Nat.le_of_ble_eq_true rfl) (Nat.le_of_ble_eq_true rfl) (p_X3_allParts g1 ?_)
  refine nE_icmp_gt (tgt := 84) dX8_needed_26 (by decide) ⟨fun c2 => ?_, fun c2 => ?_⟩
  · have h := h.1 c2
    refine nE_iload_n dX8_needed_84 rfl rfl ?_
    exact nE_iret dX8_needed_85 rfl h
  · have h := h.2 c2
    refine nE_iload_n dX8_needed_29 rfl rfl ?_
    refine nE_iconst (v := (-1)) dX8_needed_30 (by decide) ?_
    refine nE_icmp_eq (tgt := 45) dX8_needed_31 (by decide) ⟨fun c3 => ?_, fun c3 => ?_⟩
    · have h := h.1 c3
      refine nE_iconst (v := 1) dX8_needed_45 (by decide) ?_
      refine nE_goto (tgt := 50) dX8_needed_46 (by decide) ?_
      refine nE_istore dX8_needed_50 rfl (by decide) ?_
      refine nE_iload dX8_needed_52 rfl ?_
      refine nE_if_eq (tgt := 78) dX8_needed_54 (by decide) ⟨fun c4 => absurd c4 (by decide), fun c4 => ?_⟩
      refine nE_aload_n dX8_needed_57 rfl rfl ?_
      refine nE_getR fl_X8_73 sC_0 rfl dX8_needed_58 ?_
      refine nE_aload_n dX8_needed_61 rfl rfl ?_
      refine nE_getR fl_X8_73 sC_0 rfl dX8_needed_62 ?_
      refine nE_iload_n dX8_needed_65 rfl rfl ?_
      refine nE_callV (As := [.int x3]) yf_X3_canBeIn ⟨by decide, by decide⟩ rfl rfl (sP_0 g1) rfl vl_X8_271 dX8_needed_66 rfl rfl (Nat.le_of_ble_eq_true rfl) (Nat.le_of_ble_eq_true rfl) (nE_mono (fun z7 τ5 h => ?_) h)
      obtain ⟨r6, rfl, h⟩ := h
      refine nE_callV (As := [.int r6]) yf_X3_gainOf ⟨by decide, by decide⟩ rfl rfl (sP_0 g1) rfl vl_X8_274 dX8_needed_69 rfl rfl (Nat.le_of_ble_eq_true rfl) (Nat.le_of_ble_eq_true rfl) (nE_mono (fun z10 τ8 h => ?_) h)
      obtain ⟨r9, rfl, h⟩ := h
      refine nE_iload_n dX8_needed_72 rfl rfl ?_
      refine nE_icmp_lt (tgt := 78) dX8_needed_73 (by decide) ⟨fun c11 => ?_, fun c11 => ?_⟩
      · have h := h.1 c11
        refine nE_iinc (v := x3 + 1) dX8_needed_78 rfl rfl (by decide) rfl ?_
        refine nE_goto (tgt := 18) dX8_needed_81 (by decide) ?_
        refine nE_weak 4 ?_
        exact h
      · have h := h.2 c11
        refine nE_iload_n dX8_needed_76 rfl rfl ?_
        refine nE_istore_n dX8_needed_77 rfl rfl (by decide) ?_
        refine nE_iinc (v := x3 + 1) dX8_needed_78 rfl rfl (by decide) rfl ?_
        refine nE_goto (tgt := 18) dX8_needed_81 (by decide) ?_
        refine nE_weak 4 ?_
        exact h
    · have h := h.2 c3
      refine nE_iload_n dX8_needed_34 rfl rfl ?_
      refine nE_callS (As := [.int x3]) yf_J6_bitCount_0f7a4 ⟨by decide, by decide⟩ rfl sl_X8_277 dX8_needed_35 rfl rfl (Nat.le_of_ble_eq_true rfl) (Nat.le_of_ble_eq_true rfl) (nE_mono (fun z14 τ12 h => ?_) h)
      obtain ⟨r13, rfl, h⟩ := h
      refine nE_iload_n dX8_needed_38 rfl rfl ?_
      refine nE_callS (As := [.int x2]) yf_J6_bitCount_0f7a4 ⟨by decide, by decide⟩ rfl sl_X8_277 dX8_needed_39 rfl rfl (Nat.le_of_ble_eq_true rfl) (Nat.le_of_ble_eq_true rfl) (nE_mono (fun z17 τ15 h => ?_) h)
      obtain ⟨r16, rfl, h⟩ := h
      have j27 : nh_E kX8_needed 50 [some (.ref 0), some (.int x1), some (.int x2), some (.int x3), none] [.int (if ¬ (r16 ≤ r13) then 1 else 0)] τ15 Q := by
        refine nE_istore dX8_needed_50 rfl (by decide) ?_
        refine nE_iload dX8_needed_52 rfl ?_
        refine nE_ifb_eq (tgt := 78) dX8_needed_54 (by decide) ⟨fun c18 => ?_, fun c18 => ?_⟩
        · have h := h.1 c18
          refine nE_iinc (v := x3 + 1) dX8_needed_78 rfl rfl (by decide) rfl ?_
          refine nE_goto (tgt := 18) dX8_needed_81 (by decide) ?_
          refine nE_weak 4 ?_
          exact h
        · have h := h.2 c18
          refine nE_aload_n dX8_needed_57 rfl rfl ?_
          obtain ⟨g19, h⟩ := h
          refine nE_getR fl_X8_73 sC_0 rfl dX8_needed_58 ?_
          refine nE_aload_n dX8_needed_61 rfl rfl ?_
          refine nE_getR fl_X8_73 sC_0 rfl dX8_needed_62 ?_
          refine nE_iload_n dX8_needed_65 rfl rfl ?_
          refine nE_callV (As := [.int x3]) yf_X3_canBeIn ⟨by decide, by decide⟩ rfl rfl (sP_0 g19) rfl vl_X8_271 dX8_needed_66 rfl rfl (Nat.le_of_ble_eq_true rfl) (Nat.le_of_ble_eq_true rfl) (nE_mono (fun z22 τ20 h => ?_) h)
          obtain ⟨r21, rfl, h⟩ := h
          refine nE_callV (As := [.int r21]) yf_X3_gainOf ⟨by decide, by decide⟩ rfl rfl (sP_0 g19) rfl vl_X8_274 dX8_needed_69 rfl rfl (Nat.le_of_ble_eq_true rfl) (Nat.le_of_ble_eq_true rfl) (nE_mono (fun z25 τ23 h => ?_) h)
          obtain ⟨r24, rfl, h⟩ := h
          refine nE_iload_n dX8_needed_72 rfl rfl ?_
          refine nE_icmp_lt (tgt := 78) dX8_needed_73 (by decide) ⟨fun c26 => ?_, fun c26 => ?_⟩
          · have h := h.1 c26
            refine nE_iinc (v := x3 + 1) dX8_needed_78 rfl rfl (by decide) rfl ?_
            refine nE_goto (tgt := 18) dX8_needed_81 (by decide) ?_
            refine nE_weak 4 ?_
            exact h
          · have h := h.2 c26
            refine nE_iload_n dX8_needed_76 rfl rfl ?_
            refine nE_istore_n dX8_needed_77 rfl rfl (by decide) ?_
            refine nE_iinc (v := x3 + 1) dX8_needed_78 rfl rfl (by decide) rfl ?_
            refine nE_goto (tgt := 18) dX8_needed_81 (by decide) ?_
            refine nE_weak 4 ?_
            exact h
      refine nE_icmp_ge (tgt := 49) dX8_needed_42 (by decide) ⟨fun c28 => ?_, fun c28 => ?_⟩
      · skip
        have f29 : (r16 ≤ r13) = True := eq_true c28
        refine nE_iconst (v := 0) dX8_needed_49 (by decide) ?_
        exact nh_topi (show ((if ¬ (r16 ≤ r13) then 1 else 0) : Int32) = 0 from by simp only [if_true, if_false, not_true_eq_false, not_false_eq_true, true_and, and_true, false_and, and_false, true_or, or_true, false_or, or_false, if_pos, if_neg, ite_true, ite_false, f29]) j27
      · skip
        have f30 : (r16 ≤ r13) = False := eq_false c28
        refine nE_iconst (v := 1) dX8_needed_45 (by decide) ?_
        refine nE_goto (tgt := 50) dX8_needed_46 (by decide) ?_
        exact nh_topi (show ((if ¬ (r16 ≤ r13) then 1 else 0) : Int32) = 1 from by simp only [if_true, if_false, not_true_eq_false, not_false_eq_true, true_and, and_true, false_and, and_false, true_or, or_true, false_or, or_false, if_pos, if_neg, ite_true, ite_false, f30]) j27
set_option maxRecDepth 20000 in
theorem sg_X8_fit_0 (x1 : Int32) (x2 : Int32) {σ : nh_S} {Q : Option Value → nh_S → Prop} (h : (isP (σ.2.2 0 11)) ∧ ((x1 < 0) ∨ ¬ (x1 < σ.1 (σ.2.2 0 11) 1) → (Q (some (.int (-1000001))) σ)) ∧ (¬ ((x1 < 0) ∨ ¬ (x1 < σ.1 (σ.2.2 0 11) 1)) → ((¬ (¬ (x2 &&& (((1 <<< ((σ.1 (σ.2.2 0 11) 1) &&& 31)) - 1) ^^^ (-1)) = 0)) → ((vp_in x1 12) ∧ Q (some (.int (σ.2.1 5 x1.toNatClampNeg))) (nh_wa σ 5 x1.toNatClampNeg (x2 ||| (1 <<< (x1 &&& 31)))))) ∧ (¬ (x2 &&& (((1 <<< ((σ.1 (σ.2.2 0 11) 1) &&& 31)) - 1) ^^^ (-1)) = 0) → (Q (some (.int (-1000001))) σ))))) : nh_E kX8_fit 0 [some (.ref 0), some (.int x1), some (.int x2), none] [] σ Q := by
  refine nE_aload_n dX8_fit_0 rfl rfl ?_
  refine nE_iload_n dX8_fit_1 rfl rfl ?_
  obtain ⟨g1, h⟩ := h
  refine nE_callV (As := [.int x1]) yf_X8_noPart ⟨by decide, by decide⟩ rfl rfl sC_0 rfl vl_X8_165 dX8_fit_2 rfl rfl (Nat.le_of_ble_eq_true rfl) (Nat.le_of_ble_eq_true rfl) (p_X8_noPart _ g1 ?_)
  refine nE_ifb_ne (tgt := 22) dX8_fit_5 (by decide) ⟨fun c2 => ?_, fun c2 => ?_⟩
  · have h := h.1 c2
    refine nE_ldc kc_X8_147 dX8_fit_22 ?_
    exact nE_iret dX8_fit_24 rfl h
  · have h := h.2 c2
    refine nE_iload_n dX8_fit_8 rfl rfl ?_
    refine nE_aload_n dX8_fit_9 rfl rfl ?_
    refine nE_getR fl_X8_73 sC_0 rfl dX8_fit_10 ?_
    refine nE_getI fl_X8_130 (sP_0 g1) rfl dX8_fit_13 ?_
    refine nE_callS (As := [.int x2, .int (σ.1 (σ.2.2 0 11) 1)]) yf_X8_beyond ⟨by decide, by decide⟩ rfl sl_X8_183 dX8_fit_16 rfl rfl (Nat.le_of_ble_eq_true rfl) (Nat.le_of_ble_eq_true rfl) (p_X8_beyond _ _ ?_)
    refine nE_ifb_eq (tgt := 25) dX8_fit_19 (by decide) ⟨fun c3 => ?_, fun c3 => ?_⟩
    · have h := h.1 c3
      refine nE_aload_n dX8_fit_25 rfl rfl ?_
      refine nE_getC fl_X8_19 sC_0 rfl dX8_fit_26 ?_
      refine nE_getC fl_X8_180 (sN_0 isN_3) rfl dX8_fit_29 ?_
      refine nE_iload_n dX8_fit_32 rfl rfl ?_
      obtain ⟨g4, h⟩ := h
      refine nG_iald (j := x1.toNatClampNeg) (sN_2 isN_3) rfl dX8_fit_33 ⟨g4, ?_⟩
      refine nE_istore_n dX8_fit_34 rfl rfl (by decide) ?_
      refine nE_aload_n dX8_fit_35 rfl rfl ?_
      refine nE_getC fl_X8_19 sC_0 rfl dX8_fit_36 ?_
      refine nE_getC fl_X8_180 (sN_0 isN_3) rfl dX8_fit_39 ?_
      refine nE_iload_n dX8_fit_42 rfl rfl ?_
      refine nE_iload_n dX8_fit_43 rfl rfl ?_
      refine nE_iconst (v := 1) dX8_fit_44 (by decide) ?_
      refine nE_iload_n dX8_fit_45 rfl rfl ?_
      refine nE_ishl dX8_fit_46 ?_
      refine nE_ior dX8_fit_47 ?_
      refine nG_iast (j := x1.toNatClampNeg) (sN_2 isN_3) rfl dX8_fit_48 ⟨g4, ?_⟩
      refine nE_iload_n dX8_fit_49 rfl rfl ?_
      exact nE_iret dX8_fit_50 rfl h
    · have h := h.2 c3
      refine nE_ldc kc_X8_147 dX8_fit_22 ?_
      exact nE_iret dX8_fit_24 rfl h
set_option maxRecDepth 20000 in
theorem sg_X8_ladders_0 (x1 : Int32) (x2 : Int32) {σ : nh_S} {Q : Option Value → nh_S → Prop} (h : (isP (σ.2.2 0 11)) ∧ (¬ (¬ (x1 &&& (((1 <<< ((σ.1 (σ.2.2 0 11) 1) &&& 31)) - 1) ^^^ (-1)) = 0)) → ((x2 < 0 → (Q (some (.int (-1000002))) σ)) ∧ (¬ (x2 < 0) → ((x2 ≤ σ.1 (σ.2.2 0 11) 1 → (nh_E kX8_countWays 0 [some (.ref 0), some (.int x1), none, none, none, none] [] σ (nh_qv fun τ5 => nh_E kX8_ladders 45 [some (.ref 0), none, some (.int x2), some (.int 0), some (.int 0)] [] τ5 Q))) ∧ (¬ (x2 ≤ σ.1 (σ.2.2 0 11) 1) → (Q (some (.int (-1000002))) σ)))))) ∧ (¬ (x1 &&& (((1 <<< ((σ.1 (σ.2.2 0 11) 1) &&& 31)) - 1) ^^^ (-1)) = 0) → (Q (some (.int (-1000001))) σ))) : nh_E kX8_ladders 0 [some (.ref 0), some (.int x1), some (.int x2), none, none] [] σ Q := by
  refine nE_iload_n dX8_ladders_0 rfl rfl ?_
  refine nE_aload_n dX8_ladders_1 rfl rfl ?_
  obtain ⟨g1, h⟩ := h
  refine nE_getR fl_X8_73 sC_0 rfl dX8_ladders_2 ?_
  refine nE_getI fl_X8_130 (sP_0 g1) rfl dX8_ladders_5 ?_
  refine nE_callS (As := [.int x1, .int (σ.1 (σ.2.2 0 11) 1)]) yf_X8_beyond ⟨by decide, by decide⟩ rfl sl_X8_183 dX8_ladders_8 rfl rfl (Nat.le_of_ble_eq_true rfl) (Nat.le_of_ble_eq_true rfl) (p_X8_beyond _ _ ?_)
  refine nE_ifb_eq (tgt := 17) dX8_ladders_11 (by decide) ⟨fun c2 => ?_, fun c2 => ?_⟩
  · have h := h.1 c2
    refine nE_iload_n dX8_ladders_17 rfl rfl ?_
    refine nE_if_lt (tgt := 32) dX8_ladders_18 (by decide) ⟨fun c3 => ?_, fun c3 => ?_⟩
    · have h := h.1 c3
      refine nE_ldc kc_X8_93 dX8_ladders_32 ?_
      exact nE_iret dX8_ladders_34 rfl h
    · have h := h.2 c3
      refine nE_iload_n dX8_ladders_21 rfl rfl ?_
      refine nE_aload_n dX8_ladders_22 rfl rfl ?_
      refine nE_getR fl_X8_73 sC_0 rfl dX8_ladders_23 ?_
      refine nE_getI fl_X8_130 (sP_0 g1) rfl dX8_ladders_26 ?_
      refine nE_icmp_le (tgt := 35) dX8_ladders_29 (by decide) ⟨fun c4 => ?_, fun c4 => ?_⟩
      · have h := h.1 c4
        refine nE_aload_n dX8_ladders_35 rfl rfl ?_
        refine nE_iload_n dX8_ladders_36 rfl rfl ?_
        refine nE_callV (As := [.int x1]) yf_X8_countWays ⟨by decide, by decide⟩ rfl rfl sC_0 rfl vl_X8_282 dX8_ladders_37 rfl rfl (Nat.le_of_ble_eq_true rfl) (Nat.le_of_ble_eq_true rfl) (nE_mono (fun z7 τ5 h => ?_) h)
        obtain ⟨rfl, h⟩ := h
        refine nE_iconst (v := 0) dX8_ladders_40 (by decide) ?_
        refine nE_istore_n dX8_ladders_41 rfl rfl (by decide) ?_
        refine nE_iconst (v := 0) dX8_ladders_42 (by decide) ?_
        refine nE_istore dX8_ladders_43 rfl (by decide) ?_
        refine nE_weak 1 ?_
        exact h
      · have h := h.2 c4
        refine nE_ldc kc_X8_93 dX8_ladders_32 ?_
        exact nE_iret dX8_ladders_34 rfl h
  · have h := h.2 c2
    refine nE_ldc kc_X8_147 dX8_ladders_14 ?_
    exact nE_iret dX8_ladders_16 rfl h
set_option maxRecDepth 20000 in
theorem sg_X8_ladders_45 (x2 : Int32) (x3 : Int32) (x4 : Int32) {σ : nh_S} {Q : Option Value → nh_S → Prop} (h : (isP (σ.2.2 0 11)) ∧ ((1 <<< ((σ.1 (σ.2.2 0 11) 1) &&& 31)) - 1 < x4 → (Q (some (.int x3)) σ)) ∧ (¬ ((1 <<< ((σ.1 (σ.2.2 0 11) 1) &&& 31)) - 1 < x4) → (nh_E kJ6_bitCount_0f7a4 0 [some (.int x4)] [] σ (nh_qi fun r4 τ3 => (¬ (r4 = x2) → (nh_E kX8_ladders 45 [some (.ref 0), none, some (.int x2), some (.int x3), some (.int (x4 + 1))] [] τ3 Q)) ∧ (r4 = x2 → ((vp_in x4 4096) ∧ nh_E kX8_ladders 45 [some (.ref 0), none, some (.int x2), some (.int (x3 + (τ3.2.1 32 x4.toNatClampNeg))), some (.int (x4 + 1))] [] τ3 Q)))))) : nh_E kX8_ladders 45 [some (.ref 0), none, some (.int x2), some (.int x3), some (.int x4)] [] σ Q := by
  refine nE_iload dX8_ladders_45 rfl ?_
  refine nE_aload_n dX8_ladders_47 rfl rfl ?_
  obtain ⟨g1, h⟩ := h
  refine nE_getR fl_X8_73 sC_0 rfl dX8_ladders_48 ?_
  refine nE_callV (As := []) yf_X3_allParts ⟨by decide, by decide⟩ rfl rfl (sP_0 g1) rfl vl_X8_227 dX8_ladders_51 rfl rfl (Nat.le_of_ble_eq_true rfl) (Nat.le_of_ble_eq_true rfl) (p_X3_allParts g1 ?_)
  refine nE_icmp_gt (tgt := 82) dX8_ladders_54 (by decide) ⟨fun c2 => ?_, fun c2 => ?_⟩
  · have h := h.1 c2
    refine nE_iload_n dX8_ladders_82 rfl rfl ?_
    exact nE_iret dX8_ladders_83 rfl h
  · have h := h.2 c2
    refine nE_iload dX8_ladders_57 rfl ?_
    refine nE_callS (As := [.int x4]) yf_J6_bitCount_0f7a4 ⟨by decide, by decide⟩ rfl sl_X8_277 dX8_ladders_59 rfl rfl (Nat.le_of_ble_eq_true rfl) (Nat.le_of_ble_eq_true rfl) (nE_mono (fun z5 τ3 h => ?_) h)
    obtain ⟨r4, rfl, h⟩ := h
    refine nE_iload_n dX8_ladders_62 rfl rfl ?_
    refine nE_icmp_ne (tgt := 76) dX8_ladders_63 (by decide) ⟨fun c6 => ?_, fun c6 => ?_⟩
    · have h := h.1 c6
      refine nE_iinc (v := x4 + 1) dX8_ladders_76 rfl rfl (by decide) rfl ?_
      refine nE_goto (tgt := 45) dX8_ladders_79 (by decide) ?_
      exact h
    · have h := h.2 c6
      refine nE_iload_n dX8_ladders_66 rfl rfl ?_
      refine nE_aload_n dX8_ladders_67 rfl rfl ?_
      refine nE_getC fl_X8_67 sC_0 rfl dX8_ladders_68 ?_
      refine nE_iload dX8_ladders_71 rfl ?_
      obtain ⟨g7, h⟩ := h
      refine nG_iald (j := x4.toNatClampNeg) sC_32 rfl dX8_ladders_73 ⟨g7, ?_⟩
      refine nE_iadd dX8_ladders_74 ?_
      refine nE_istore_n dX8_ladders_75 rfl rfl (by decide) ?_
      refine nE_iinc (v := x4 + 1) dX8_ladders_76 rfl rfl (by decide) rfl ?_
      refine nE_goto (tgt := 45) dX8_ladders_79 (by decide) ?_
      exact h
set_option maxRecDepth 20000 in
theorem sg_X8_longest_0 (x1 : Int32) {σ : nh_S} {Q : Option Value → nh_S → Prop} (h : (isP (σ.2.2 0 11)) ∧ (¬ (¬ (x1 &&& (((1 <<< ((σ.1 (σ.2.2 0 11) 1) &&& 31)) - 1) ^^^ (-1)) = 0)) → (nh_E kX8_countWays 0 [some (.ref 0), some (.int x1), none, none, none, none] [] σ (nh_qv fun τ3 => nh_E kX8_longest 26 [some (.ref 0), none, some (.int 0), some (.int 0)] [] τ3 Q))) ∧ (¬ (x1 &&& (((1 <<< ((σ.1 (σ.2.2 0 11) 1) &&& 31)) - 1) ^^^ (-1)) = 0) → (Q (some (.int (-1000001))) σ))) : nh_E kX8_longest 0 [some (.ref 0), some (.int x1), none, none] [] σ Q := by
  refine nE_iload_n dX8_longest_0 rfl rfl ?_
  refine nE_aload_n dX8_longest_1 rfl rfl ?_
  obtain ⟨g1, h⟩ := h
  refine nE_getR fl_X8_73 sC_0 rfl dX8_longest_2 ?_
  refine nE_getI fl_X8_130 (sP_0 g1) rfl dX8_longest_5 ?_
  refine nE_callS (As := [.int x1, .int (σ.1 (σ.2.2 0 11) 1)]) yf_X8_beyond ⟨by decide, by decide⟩ rfl sl_X8_183 dX8_longest_8 rfl rfl (Nat.le_of_ble_eq_true rfl) (Nat.le_of_ble_eq_true rfl) (p_X8_beyond _ _ ?_)
  refine nE_ifb_eq (tgt := 17) dX8_longest_11 (by decide) ⟨fun c2 => ?_, fun c2 => ?_⟩
  · have h := h.1 c2
    refine nE_aload_n dX8_longest_17 rfl rfl ?_
    refine nE_iload_n dX8_longest_18 rfl rfl ?_
    refine nE_callV (As := [.int x1]) yf_X8_countWays ⟨by decide, by decide⟩ rfl rfl sC_0 rfl vl_X8_282 dX8_longest_19 rfl rfl (Nat.le_of_ble_eq_true rfl) (Nat.le_of_ble_eq_true rfl) (nE_mono (fun z5 τ3 h => ?_) h)
    obtain ⟨rfl, h⟩ := h
    refine nE_iconst (v := 0) dX8_longest_22 (by decide) ?_
    refine nE_istore_n dX8_longest_23 rfl rfl (by decide) ?_
    refine nE_iconst (v := 0) dX8_longest_24 (by decide) ?_
    refine nE_istore_n dX8_longest_25 rfl rfl (by decide) ?_
    refine nE_weak 1 ?_
    exact h
  · have h := h.2 c2
    refine nE_ldc kc_X8_147 dX8_longest_14 ?_
    exact nE_iret dX8_longest_16 rfl h
set_option maxRecDepth 20000 in
theorem sg_X8_longest_26 (x2 : Int32) (x3 : Int32) {σ : nh_S} {Q : Option Value → nh_S → Prop} (h : (isP (σ.2.2 0 11)) ∧ ((1 <<< ((σ.1 (σ.2.2 0 11) 1) &&& 31)) - 1 < x3 → (Q (some (.int x2)) σ)) ∧ (¬ ((1 <<< ((σ.1 (σ.2.2 0 11) 1) &&& 31)) - 1 < x3) → ((vp_in x3 4096) ∧ (σ.2.1 32 x3.toNatClampNeg ≤ 0 → (nh_E kX8_longest 26 [some (.ref 0), none, some (.int x2), some (.int (x3 + 1))] [] σ Q)) ∧ (¬ (σ.2.1 32 x3.toNatClampNeg ≤ 0) → (nh_E kJ6_bitCount_0f7a4 0 [some (.int x3)] [] σ (nh_qi fun r6 τ5 => nh_E kX8_longest 26 [some (.ref 0), none, some (.int (if x2 < r6 then r6 else x2)), some (.int (x3 + 1))] [] τ5 Q)))))) : nh_E kX8_longest 26 [some (.ref 0), none, some (.int x2), some (.int x3)] [] σ Q := by
  refine nE_iload_n dX8_longest_26 rfl rfl ?_
  refine nE_aload_n dX8_longest_27 rfl rfl ?_
  obtain ⟨g1, h⟩ := h
  refine nE_getR fl_X8_73 sC_0 rfl dX8_longest_28 ?_
  refine nE_callV (As := []) yf_X3_allParts ⟨by decide, by decide⟩ rfl rfl (sP_0 g1) rfl vl_X8_227 dX8_longest_31 rfl rfl (Nat.le_of_ble_eq_true rfl) (Nat.le_of_ble_eq_true rfl) (p_X3_allParts g1 ?_)
  refine nE_icmp_gt (tgt := 61) dX8_longest_34 (by decide) ⟨fun c2 => ?_, fun c2 => ?_⟩
  · have h := h.1 c2
    refine nE_iload_n dX8_longest_61 rfl rfl ?_
    exact nE_iret dX8_longest_62 rfl h
  · have h := h.2 c2
    refine nE_aload_n dX8_longest_37 rfl rfl ?_
    refine nE_getC fl_X8_67 sC_0 rfl dX8_longest_38 ?_
    refine nE_iload_n dX8_longest_41 rfl rfl ?_
    obtain ⟨g3, h⟩ := h
    refine nG_iald (j := x3.toNatClampNeg) sC_32 rfl dX8_longest_42 ⟨g3, ?_⟩
    refine nE_if_le (tgt := 55) dX8_longest_43 (by decide) ⟨fun c4 => ?_, fun c4 => ?_⟩
    · have h := h.1 c4
      refine nE_iinc (v := x3 + 1) dX8_longest_55 rfl rfl (by decide) rfl ?_
      refine nE_goto (tgt := 26) dX8_longest_58 (by decide) ?_
      exact h
    · have h := h.2 c4
      refine nE_iload_n dX8_longest_46 rfl rfl ?_
      refine nE_iload_n dX8_longest_47 rfl rfl ?_
      refine nE_callS (As := [.int x3]) yf_J6_bitCount_0f7a4 ⟨by decide, by decide⟩ rfl sl_X8_277 dX8_longest_48 rfl rfl (Nat.le_of_ble_eq_true rfl) (Nat.le_of_ble_eq_true rfl) (nE_mono (fun z7 τ5 h => ?_) h)
      obtain ⟨r6, rfl, h⟩ := h
      refine nE_mmax mm_X8_236 ⟨by decide, Nat.le_of_ble_eq_true rfl⟩ dX8_longest_51 ?_
      refine nE_istore_n dX8_longest_54 rfl rfl (by decide) ?_
      refine nE_iinc (v := x3 + 1) dX8_longest_55 rfl rfl (by decide) rfl ?_
      refine nE_goto (tgt := 26) dX8_longest_58 (by decide) ?_
      exact h
set_option maxRecDepth 20000 in
theorem sg_X8_cost_0 (x1 : Int32) (x2 : Int32) {σ : nh_S} {Q : Option Value → nh_S → Prop} (h : (isP (σ.2.2 0 11)) ∧ (¬ ((x1 < 0) ∨ ¬ (x1 < σ.1 (σ.2.2 0 11) 1)) → ((x2 < 0 → (Q (some (.int (-1000002))) σ)) ∧ (¬ (x2 < 0) → ((x2 ≤ 99 → ((vp_in x1 12) ∧ Q (some (.int (σ.2.1 30 x1.toNatClampNeg))) (nh_wa σ 30 x1.toNatClampNeg x2))) ∧ (¬ (x2 ≤ 99) → (Q (some (.int (-1000002))) σ)))))) ∧ ((x1 < 0) ∨ ¬ (x1 < σ.1 (σ.2.2 0 11) 1) → (Q (some (.int (-1000001))) σ))) : nh_E kX8_cost 0 [some (.ref 0), some (.int x1), some (.int x2), none] [] σ Q := by
  refine nE_aload_n dX8_cost_0 rfl rfl ?_
  refine nE_iload_n dX8_cost_1 rfl rfl ?_
  obtain ⟨g1, h⟩ := h
  refine nE_callV (As := [.int x1]) yf_X8_noPart ⟨by decide, by decide⟩ rfl rfl sC_0 rfl vl_X8_165 dX8_cost_2 rfl rfl (Nat.le_of_ble_eq_true rfl) (Nat.le_of_ble_eq_true rfl) (p_X8_noPart _ g1 ?_)
  refine nE_ifb_eq (tgt := 11) dX8_cost_5 (by decide) ⟨fun c2 => ?_, fun c2 => ?_⟩
  · have h := h.1 c2
    refine nE_iload_n dX8_cost_11 rfl rfl ?_
    refine nE_if_lt (tgt := 21) dX8_cost_12 (by decide) ⟨fun c3 => ?_, fun c3 => ?_⟩
    · have h := h.1 c3
      refine nE_ldc kc_X8_93 dX8_cost_21 ?_
      exact nE_iret dX8_cost_23 rfl h
    · have h := h.2 c3
      refine nE_iload_n dX8_cost_15 rfl rfl ?_
      refine nE_bipush (v := 99) dX8_cost_16 (by decide) ?_
      refine nE_icmp_le (tgt := 24) dX8_cost_18 (by decide) ⟨fun c4 => ?_, fun c4 => ?_⟩
      · have h := h.1 c4
        refine nE_aload_n dX8_cost_24 rfl rfl ?_
        refine nE_getC fl_X8_60 sC_0 rfl dX8_cost_25 ?_
        refine nE_iload_n dX8_cost_28 rfl rfl ?_
        obtain ⟨g5, h⟩ := h
        refine nG_iald (j := x1.toNatClampNeg) sC_30 rfl dX8_cost_29 ⟨g5, ?_⟩
        refine nE_istore_n dX8_cost_30 rfl rfl (by decide) ?_
        refine nE_aload_n dX8_cost_31 rfl rfl ?_
        refine nE_getC fl_X8_60 sC_0 rfl dX8_cost_32 ?_
        refine nE_iload_n dX8_cost_35 rfl rfl ?_
        refine nE_iload_n dX8_cost_36 rfl rfl ?_
        refine nG_iast (j := x1.toNatClampNeg) sC_30 rfl dX8_cost_37 ⟨g5, ?_⟩
        refine nE_iload_n dX8_cost_38 rfl rfl ?_
        exact nE_iret dX8_cost_39 rfl h
      · have h := h.2 c4
        refine nE_ldc kc_X8_93 dX8_cost_21 ?_
        exact nE_iret dX8_cost_23 rfl h
  · have h := h.2 c2
    refine nE_ldc kc_X8_147 dX8_cost_8 ?_
    exact nE_iret dX8_cost_10 rfl h
set_option maxRecDepth 20000 in
theorem sg_X8_store_0 (x1 : Int32) {σ : nh_S} {Q : Option Value → nh_S → Prop} (h : (isP (σ.2.2 0 11)) ∧ (¬ ((x1 < 0) ∨ ¬ (x1 < σ.1 (σ.2.2 0 11) 0)) → (Q (some (.int (σ.1 0 16))) (nh_si σ 0 16 x1))) ∧ ((x1 < 0) ∨ ¬ (x1 < σ.1 (σ.2.2 0 11) 0) → (Q (some (.int (-1000001))) σ))) : nh_E kX8_store 0 [some (.ref 0), some (.int x1), none] [] σ Q := by
  refine nE_aload_n dX8_store_0 rfl rfl ?_
  refine nE_iload_n dX8_store_1 rfl rfl ?_
  obtain ⟨g1, h⟩ := h
  refine nE_callV (As := [.int x1]) yf_X8_noHouse ⟨by decide, by decide⟩ rfl rfl sC_0 rfl vl_X8_143 dX8_store_2 rfl rfl (Nat.le_of_ble_eq_true rfl) (Nat.le_of_ble_eq_true rfl) (p_X8_noHouse _ g1 ?_)
  refine nE_ifb_eq (tgt := 11) dX8_store_5 (by decide) ⟨fun c2 => ?_, fun c2 => ?_⟩
  · have h := h.1 c2
    refine nE_aload_n dX8_store_11 rfl rfl ?_
    refine nE_getI fl_X8_136 sC_0 rfl dX8_store_12 ?_
    refine nE_istore_n dX8_store_15 rfl rfl (by decide) ?_
    refine nE_aload_n dX8_store_16 rfl rfl ?_
    refine nE_iload_n dX8_store_17 rfl rfl ?_
    refine nE_putI fl_X8_136 sC_0 rfl ⟨rfl, rfl⟩ dX8_store_18 ?_
    refine nE_iload_n dX8_store_21 rfl rfl ?_
    exact nE_iret dX8_store_22 rfl h
  · have h := h.2 c2
    refine nE_ldc kc_X8_147 dX8_store_8 ?_
    exact nE_iret dX8_store_10 rfl h
set_option maxRecDepth 20000 in
theorem sg_X8_spares_0 (x1 : Int32) (x2 : Int32) (x3 : Int32) (x4 : Int32) {σ : nh_S} {Q : Option Value → nh_S → Prop} (h : (isP (σ.2.2 0 11)) ∧ ((x1 < 0) ∨ ¬ (x1 < σ.1 (σ.2.2 0 11) 0) → (Q (some (.int (-1000001))) σ)) ∧ (¬ ((x1 < 0) ∨ ¬ (x1 < σ.1 (σ.2.2 0 11) 0)) → ((¬ ((x2 < 0) ∨ ¬ (x2 < σ.1 (σ.2.2 0 11) 0)) → ((x3 < 0 → (Q (some (.int (-1000002))) σ)) ∧ (¬ (x3 < 0) → ((999 < x3 → (Q (some (.int (-1000002))) σ)) ∧ (¬ (999 < x3) → ((x4 < 0 → (Q (some (.int (-1000002))) σ)) ∧ (¬ (x4 < 0) → ((x4 ≤ 1 → (nh_E kX8_wakeAll 0 [some (.ref 0), some (.int x2)] [] σ (nh_qv fun τ8 => (isP (τ8.2.2 0 11)) ∧ nh_E kX5_gather 0 [some (.ref 17), some (.ref (τ8.2.2 0 11)), some (.ref 12), some (.ref 4), some (.int x1), none] [] τ8 (nh_qv fun τ12 => (isP (τ12.2.2 0 11)) ∧ nh_E kX7_arrival 0 [some (.ref 12), some (.ref (τ12.2.2 0 11)), some (.int (τ12.1 0 16)), some (.int x1)] [] τ12 (nh_qi fun r17 τ16 => (isP (τ16.2.2 0 11)) ∧ nh_E kX5_laterThan 0 [some (.ref 17), some (.int r17), some (.int (τ16.1 (τ16.2.2 0 11) 1)), none, none] [] τ16 (nh_qi fun r21 τ20 => nh_E kX8_standsWith 0 [some (.ref 0), some (.int 0), some (.int r17), none] [] τ20 (nh_qi fun r24 τ23 => nh_E kX8_spares 123 [some (.ref 0), none, none, some (.int x3), some (.int x4), some (.int r17), some (.int r21), some (.int 0), some (.int r24), some (.int 1), none] [] τ23 Q))))))) ∧ (¬ (x4 ≤ 1) → (Q (some (.int (-1000002))) σ)))))))))) ∧ ((x2 < 0) ∨ ¬ (x2 < σ.1 (σ.2.2 0 11) 0) → (Q (some (.int (-1000001))) σ))))) : nh_E kX8_spares 0 [some (.ref 0), some (.int x1), some (.int x2), some (.int x3), some (.int x4), none, none, none, none, none, none] [] σ Q := by
  refine nE_aload_n dX8_spares_0 rfl rfl ?_
  refine nE_iload_n dX8_spares_1 rfl rfl ?_
  obtain ⟨g1, h⟩ := h
  refine nE_callV (As := [.int x1]) yf_X8_noHouse ⟨by decide, by decide⟩ rfl rfl sC_0 rfl vl_X8_143 dX8_spares_2 rfl rfl (Nat.le_of_ble_eq_true rfl) (Nat.le_of_ble_eq_true rfl) (p_X8_noHouse _ g1 ?_)
  refine nE_ifb_ne (tgt := 16) dX8_spares_5 (by decide) ⟨fun c2 => ?_, fun c2 => ?_⟩
  · have h := h.1 c2
    refine nE_ldc kc_X8_147 dX8_spares_16 ?_
    exact nE_iret dX8_spares_18 rfl h
  · have h := h.2 c2
    refine nE_aload_n dX8_spares_8 rfl rfl ?_
    refine nE_iload_n dX8_spares_9 rfl rfl ?_
    refine nE_callV (As := [.int x2]) yf_X8_noHouse ⟨by decide, by decide⟩ rfl rfl sC_0 rfl vl_X8_143 dX8_spares_10 rfl rfl (Nat.le_of_ble_eq_true rfl) (Nat.le_of_ble_eq_true rfl) (p_X8_noHouse _ g1 ?_)
    refine nE_ifb_eq (tgt := 19) dX8_spares_13 (by decide) ⟨fun c3 => ?_, fun c3 => ?_⟩
    · have h := h.1 c3
      refine nE_iload_n dX8_spares_19 rfl rfl ?_
      refine nE_if_lt (tgt := 41) dX8_spares_20 (by decide) ⟨fun c4 => ?_, fun c4 => ?_⟩
      · have h := h.1 c4
        refine nE_ldc kc_X8_93 dX8_spares_41 ?_
        exact nE_iret dX8_spares_43 rfl h
      · have h := h.2 c4
        refine nE_iload_n dX8_spares_23 rfl rfl ?_
        refine nE_sipush (v := 999) dX8_spares_24 (by decide) ?_
        refine nE_icmp_gt (tgt := 41) dX8_spares_27 (by decide) ⟨fun c5 => ?_, fun c5 => ?_⟩
        · have h := h.1 c5
          refine nE_ldc kc_X8_93 dX8_spares_41 ?_
          exact nE_iret dX8_spares_43 rfl h
        · have h := h.2 c5
          refine nE_iload dX8_spares_30 rfl ?_
          refine nE_if_lt (tgt := 41) dX8_spares_32 (by decide) ⟨fun c6 => ?_, fun c6 => ?_⟩
          · have h := h.1 c6
            refine nE_ldc kc_X8_93 dX8_spares_41 ?_
            exact nE_iret dX8_spares_43 rfl h
          · have h := h.2 c6
            refine nE_iload dX8_spares_35 rfl ?_
            refine nE_iconst (v := 1) dX8_spares_37 (by decide) ?_
            refine nE_icmp_le (tgt := 44) dX8_spares_38 (by decide) ⟨fun c7 => ?_, fun c7 => ?_⟩
            · have h := h.1 c7
              refine nE_aload_n dX8_spares_44 rfl rfl ?_
              refine nE_iload_n dX8_spares_45 rfl rfl ?_
              refine nE_callV (As := [.int x2]) yf_X8_wakeAll ⟨by decide, by decide⟩ rfl rfl sC_0 rfl vl_X8_187 dX8_spares_46 rfl rfl (Nat.le_of_ble_eq_true rfl) (Nat.le_of_ble_eq_true rfl) (nE_mono (fun z10 τ8 h => ?_) h)
              obtain ⟨rfl, h⟩ := h
              refine nE_aload_n dX8_spares_49 rfl rfl ?_
              refine nE_getC fl_X8_39 sC_0 rfl dX8_spares_50 ?_
              refine nE_aload_n dX8_spares_53 rfl rfl ?_
              obtain ⟨g11, h⟩ := h
              refine nE_getR fl_X8_73 sC_0 rfl dX8_spares_54 ?_
              refine nE_aload_n dX8_spares_57 rfl rfl ?_
              refine nE_getC fl_X8_32 sC_0 rfl dX8_spares_58 ?_
              refine nE_aload_n dX8_spares_61 rfl rfl ?_
              refine nE_getC fl_X8_19 sC_0 rfl dX8_spares_62 ?_
              refine nE_getC fl_X8_168 (sN_0 isN_3) rfl dX8_spares_65 ?_
              refine nE_iload_n dX8_spares_68 rfl rfl ?_
              refine nE_callV (As := [.ref (τ8.2.2 0 11), .ref 12, .ref 4, .int x1]) yf_X5_gather ⟨by decide, by decide⟩ rfl rfl (sG_0 isG_17) rfl vl_X8_223 dX8_spares_69 rfl rfl (Nat.le_of_ble_eq_true rfl) (Nat.le_of_ble_eq_true rfl) (nE_mono (fun z14 τ12 h => ?_) h)
              obtain ⟨rfl, h⟩ := h
              refine nE_aload_n dX8_spares_72 rfl rfl ?_
              refine nE_getC fl_X8_32 sC_0 rfl dX8_spares_73 ?_
              refine nE_aload_n dX8_spares_76 rfl rfl ?_
              obtain ⟨g15, h⟩ := h
              refine nE_getR fl_X8_73 sC_0 rfl dX8_spares_77 ?_
              refine nE_aload_n dX8_spares_80 rfl rfl ?_
              refine nE_getI fl_X8_136 sC_0 rfl dX8_spares_81 ?_
              refine nE_iload_n dX8_spares_84 rfl rfl ?_
              refine nE_callV (As := [.ref (τ12.2.2 0 11), .int (τ12.1 0 16), .int x1]) yf_X7_arrival ⟨by decide, by decide⟩ rfl rfl sC_12 rfl vl_X8_194 dX8_spares_85 rfl rfl (Nat.le_of_ble_eq_true rfl) (Nat.le_of_ble_eq_true rfl) (nE_mono (fun z18 τ16 h => ?_) h)
              obtain ⟨r17, rfl, h⟩ := h
              refine nE_istore dX8_spares_88 rfl (by decide) ?_
              refine nE_aload_n dX8_spares_90 rfl rfl ?_
              refine nE_getC fl_X8_39 sC_0 rfl dX8_spares_91 ?_
              refine nE_iload dX8_spares_94 rfl ?_
              refine nE_aload_n dX8_spares_96 rfl rfl ?_
              obtain ⟨g19, h⟩ := h
              refine nE_getR fl_X8_73 sC_0 rfl dX8_spares_97 ?_
              refine nE_getI fl_X8_130 (sP_0 g19) rfl dX8_spares_100 ?_
              refine nE_callV (As := [.int r17, .int (τ16.1 (τ16.2.2 0 11) 1)]) yf_X5_laterThan ⟨by decide, by decide⟩ rfl rfl (sG_0 isG_17) rfl vl_X8_285 dX8_spares_103 rfl rfl (Nat.le_of_ble_eq_true rfl) (Nat.le_of_ble_eq_true rfl) (nE_mono (fun z22 τ20 h => ?_) h)
              obtain ⟨r21, rfl, h⟩ := h
              refine nE_istore dX8_spares_106 rfl (by decide) ?_
              refine nE_iconst (v := 0) dX8_spares_108 (by decide) ?_
              refine nE_istore dX8_spares_109 rfl (by decide) ?_
              refine nE_aload_n dX8_spares_111 rfl rfl ?_
              refine nE_iconst (v := 0) dX8_spares_112 (by decide) ?_
              refine nE_iload dX8_spares_113 rfl ?_
              refine nE_callV (As := [.int 0, .int r17]) yf_X8_standsWith ⟨by decide, by decide⟩ rfl rfl sC_0 rfl vl_X8_288 dX8_spares_115 rfl rfl (Nat.le_of_ble_eq_true rfl) (Nat.le_of_ble_eq_true rfl) (nE_mono (fun z25 τ23 h => ?_) h)
              obtain ⟨r24, rfl, h⟩ := h
              refine nE_istore dX8_spares_118 rfl (by decide) ?_
              refine nE_iconst (v := 1) dX8_spares_120 (by decide) ?_
              refine nE_istore dX8_spares_121 rfl (by decide) ?_
              refine nE_weak 1 ?_
              refine nE_weak 2 ?_
              exact h
            · have h := h.2 c7
              refine nE_ldc kc_X8_93 dX8_spares_41 ?_
              exact nE_iret dX8_spares_43 rfl h
    · have h := h.2 c3
      refine nE_ldc kc_X8_147 dX8_spares_16 ?_
      exact nE_iret dX8_spares_18 rfl h
set_option maxRecDepth 20000 in
theorem sg_X8_spares_123 (x3 : Int32) (x4 : Int32) (x5 : Int32) (x6 : Int32) (x7 : Int32) (x8 : Int32) (x9 : Int32) {σ : nh_S} {Q : Option Value → nh_S → Prop} (h : (x6 < x9 → (Q (some (.int (if x4 = 0 then x7 else x8))) σ)) ∧ (¬ (x6 < x9) → ((¬ (x9 &&& (x6 ^^^ (-1)) = 0) → (nh_E kX8_spares 123 [some (.ref 0), none, none, some (.int x3), some (.int x4), some (.int x5), some (.int x6), some (.int x7), some (.int x8), some (.int (x9 + 1)), none] [] σ Q)) ∧ (x9 &&& (x6 ^^^ (-1)) = 0 → (nh_E kX8_costOf 0 [some (.ref 0), some (.int x9), none, none] [] σ (nh_qi fun r8 τ7 => (x3 < r8 → (nh_E kX8_spares 123 [some (.ref 0), none, none, some (.int x3), some (.int x4), some (.int x5), some (.int x6), some (.int x7), some (.int x8), some (.int (x9 + 1)), none] [] τ7 Q)) ∧ (¬ (x3 < r8) → (nh_E kX8_standsWith 0 [some (.ref 0), some (.int x9), some (.int x5), none] [] τ7 (nh_qi fun r12 τ11 => (r12 < x8 → (nh_E kX8_spares 123 [some (.ref 0), none, none, some (.int x3), some (.int x4), some (.int x5), some (.int x6), some (.int x9), some (.int r12), some (.int (x9 + 1)), none] [] τ11 Q)) ∧ (¬ (r12 < x8) → ((¬ (r12 = x8) → (nh_E kX8_spares 123 [some (.ref 0), none, none, some (.int x3), some (.int x4), some (.int x5), some (.int x6), some (.int x7), some (.int x8), some (.int (x9 + 1)), none] [] τ11 Q)) ∧ (r12 = x8 → (nh_E kX8_costOf 0 [some (.ref 0), some (.int x9), none, none] [] τ11 (nh_qi fun r17 τ16 => nh_E kX8_costOf 0 [some (.ref 0), some (.int x7), none, none] [] τ16 (nh_qi fun r20 τ19 => (r20 ≤ r17 → (nh_E kX8_spares 123 [some (.ref 0), none, none, some (.int x3), some (.int x4), some (.int x5), some (.int x6), some (.int x7), some (.int x8), some (.int (x9 + 1)), none] [] τ19 Q)) ∧ (¬ (r20 ≤ r17) → (nh_E kX8_spares 123 [some (.ref 0), none, none, some (.int x3), some (.int x4), some (.int x5), some (.int x6), some (.int x9), some (.int r12), some (.int (x9 + 1)), none] [] τ19 Q))))))))))))))))) : nh_E kX8_spares 123 [some (.ref 0), none, none, some (.int x3), some (.int x4), some (.int x5), some (.int x6), some (.int x7), some (.int x8), some (.int x9), none] [] σ Q := by
  refine nE_iload dX8_spares_123 rfl ?_
  refine nE_iload dX8_spares_125 rfl ?_
  refine nE_icmp_gt (tgt := 203) dX8_spares_127 (by decide) ⟨fun c1 => ?_, fun c1 => ?_⟩
  · have h := h.1 c1
    refine nE_iload dX8_spares_203 rfl ?_
    have j2 : nh_E kX8_spares 215 [some (.ref 0), none, none, some (.int x3), some (.int x4), some (.int x5), some (.int x6), some (.int x7), some (.int x8), some (.int x9), none] [.int (if x4 = 0 then x7 else x8)] σ Q := by
      exact nE_iret dX8_spares_215 rfl h
    refine nE_if_ne (tgt := 213) dX8_spares_205 (by decide) ⟨fun c3 => ?_, fun c3 => ?_⟩
    · skip
      have f4 : (x4 = 0) = False := eq_false c3
      refine nE_iload dX8_spares_213 rfl ?_
      exact nh_topi (show ((if x4 = 0 then x7 else x8) : Int32) = x8 from by simp only [if_true, if_false, not_true_eq_false, not_false_eq_true, true_and, and_true, false_and, and_false, true_or, or_true, false_or, or_false, if_pos, if_neg, ite_true, ite_false, f4]) j2
    · skip
      have f5 : (x4 = 0) = True := eq_true c3
      refine nE_iload dX8_spares_208 rfl ?_
      refine nE_goto (tgt := 215) dX8_spares_210 (by decide) ?_
      exact nh_topi (show ((if x4 = 0 then x7 else x8) : Int32) = x7 from by simp only [if_true, if_false, not_true_eq_false, not_false_eq_true, true_and, and_true, false_and, and_false, true_or, or_true, false_or, or_false, if_pos, if_neg, ite_true, ite_false, f5]) j2
  · have h := h.2 c1
    refine nE_iload dX8_spares_130 rfl ?_
    refine nE_iload dX8_spares_132 rfl ?_
    refine nE_iconst (v := (-1)) dX8_spares_134 (by decide) ?_
    refine nE_ixor dX8_spares_135 ?_
    refine nE_iand dX8_spares_136 ?_
    refine nE_if_ne (tgt := 197) dX8_spares_137 (by decide) ⟨fun c6 => ?_, fun c6 => ?_⟩
    · have h := h.1 c6
      refine nE_iinc (v := x9 + 1) dX8_spares_197 rfl rfl (by decide) rfl ?_
      refine nE_goto (tgt := 123) dX8_spares_200 (by decide) ?_
      exact h
    · have h := h.2 c6
      refine nE_aload_n dX8_spares_140 rfl rfl ?_
      refine nE_iload dX8_spares_141 rfl ?_
      refine nE_callV (As := [.int x9]) yf_X8_costOf ⟨by decide, by decide⟩ rfl rfl sC_0 rfl vl_X8_291 dX8_spares_143 rfl rfl (Nat.le_of_ble_eq_true rfl) (Nat.le_of_ble_eq_true rfl) (nE_mono (fun z9 τ7 h => ?_) h)
      obtain ⟨r8, rfl, h⟩ := h
      refine nE_iload_n dX8_spares_146 rfl rfl ?_
      refine nE_icmp_gt (tgt := 197) dX8_spares_147 (by decide) ⟨fun c10 => ?_, fun c10 => ?_⟩
      · have h := h.1 c10
        refine nE_iinc (v := x9 + 1) dX8_spares_197 rfl rfl (by decide) rfl ?_
        refine nE_goto (tgt := 123) dX8_spares_200 (by decide) ?_
        exact h
      · have h := h.2 c10
        refine nE_aload_n dX8_spares_150 rfl rfl ?_
        refine nE_iload dX8_spares_151 rfl ?_
        refine nE_iload dX8_spares_153 rfl ?_
        refine nE_callV (As := [.int x9, .int x5]) yf_X8_standsWith ⟨by decide, by decide⟩ rfl rfl sC_0 rfl vl_X8_288 dX8_spares_155 rfl rfl (Nat.le_of_ble_eq_true rfl) (Nat.le_of_ble_eq_true rfl) (nE_mono (fun z13 τ11 h => ?_) h)
        obtain ⟨r12, rfl, h⟩ := h
        refine nE_istore dX8_spares_158 rfl (by decide) ?_
        refine nE_iload dX8_spares_160 rfl ?_
        refine nE_iload dX8_spares_162 rfl ?_
        refine nE_icmp_lt (tgt := 189) dX8_spares_164 (by decide) ⟨fun c14 => ?_, fun c14 => ?_⟩
        · have h := h.1 c14
          refine nE_iload dX8_spares_189 rfl ?_
          refine nE_istore dX8_spares_191 rfl (by decide) ?_
          refine nE_iload dX8_spares_193 rfl ?_
          refine nE_istore dX8_spares_195 rfl (by decide) ?_
          refine nE_iinc (v := x9 + 1) dX8_spares_197 rfl rfl (by decide) rfl ?_
          refine nE_goto (tgt := 123) dX8_spares_200 (by decide) ?_
          refine nE_weak 10 ?_
          exact h
        · have h := h.2 c14
          refine nE_iload dX8_spares_167 rfl ?_
          refine nE_iload dX8_spares_169 rfl ?_
          refine nE_icmp_ne (tgt := 197) dX8_spares_171 (by decide) ⟨fun c15 => ?_, fun c15 => ?_⟩
          · have h := h.1 c15
            refine nE_iinc (v := x9 + 1) dX8_spares_197 rfl rfl (by decide) rfl ?_
            refine nE_goto (tgt := 123) dX8_spares_200 (by decide) ?_
            refine nE_weak 10 ?_
            exact h
          · have h := h.2 c15
            refine nE_aload_n dX8_spares_174 rfl rfl ?_
            refine nE_iload dX8_spares_175 rfl ?_
            refine nE_callV (As := [.int x9]) yf_X8_costOf ⟨by decide, by decide⟩ rfl rfl sC_0 rfl vl_X8_291 dX8_spares_177 rfl rfl (Nat.le_of_ble_eq_true rfl) (Nat.le_of_ble_eq_true rfl) (nE_mono (fun z18 τ16 h => ?_) h)
            obtain ⟨r17, rfl, h⟩ := h
            refine nE_aload_n dX8_spares_180 rfl rfl ?_
            refine nE_iload dX8_spares_181 rfl ?_
            refine nE_callV (As := [.int x7]) yf_X8_costOf ⟨by decide, by decide⟩ rfl rfl sC_0 rfl vl_X8_291 dX8_spares_183 rfl rfl (Nat.le_of_ble_eq_true rfl) (Nat.le_of_ble_eq_true rfl) (nE_mono (fun z21 τ19 h => ?_) h)
            obtain ⟨r20, rfl, h⟩ := h
            refine nE_icmp_ge (tgt := 197) dX8_spares_186 (by decide) ⟨fun c22 => ?_, fun c22 => ?_⟩
            · have h := h.1 c22
              refine nE_iinc (v := x9 + 1) dX8_spares_197 rfl rfl (by decide) rfl ?_
              refine nE_goto (tgt := 123) dX8_spares_200 (by decide) ?_
              refine nE_weak 10 ?_
              exact h
            · have h := h.2 c22
              refine nE_iload dX8_spares_189 rfl ?_
              refine nE_istore dX8_spares_191 rfl (by decide) ?_
              refine nE_iload dX8_spares_193 rfl ?_
              refine nE_istore dX8_spares_195 rfl (by decide) ?_
              refine nE_iinc (v := x9 + 1) dX8_spares_197 rfl rfl (by decide) rfl ?_
              refine nE_goto (tgt := 123) dX8_spares_200 (by decide) ?_
              refine nE_weak 10 ?_
              exact h
set_option maxRecDepth 20000 in
theorem sg_X8_two_0 (x1 : Int32) (x2 : Int32) (x3 : Int32) (x4 : Int32) {σ : nh_S} {Q : Option Value → nh_S → Prop} (h : (isP (σ.2.2 0 11)) ∧ ((x1 < 0) ∨ ¬ (x1 < σ.1 (σ.2.2 0 11) 0) → (Q (some (.int (-1000001))) σ)) ∧ (¬ ((x1 < 0) ∨ ¬ (x1 < σ.1 (σ.2.2 0 11) 0)) → (((x2 < 0) ∨ ¬ (x2 < σ.1 (σ.2.2 0 11) 0) → (Q (some (.int (-1000001))) σ)) ∧ (¬ ((x2 < 0) ∨ ¬ (x2 < σ.1 (σ.2.2 0 11) 0)) → ((¬ ((x3 < 0) ∨ ¬ (x3 < σ.1 (σ.2.2 0 11) 0)) → ((x4 < 0 → (Q (some (.int (-1000002))) σ)) ∧ (¬ (x4 < 0) → ((x4 ≤ 9999 → (nh_E kX8_wakeAll 0 [some (.ref 0), some (.int x3)] [] σ (nh_qv fun τ7 => (isP (τ7.2.2 0 11)) ∧ nh_E kX5_gather 0 [some (.ref 17), some (.ref (τ7.2.2 0 11)), some (.ref 12), some (.ref 4), some (.int x1), none] [] τ7 (nh_qv fun τ11 => (isP (τ11.2.2 0 11)) ∧ nh_E kX5_countNever 0 [some (.ref 17), some (.int (τ11.1 (τ11.2.2 0 11) 1)), none] [] τ11 (nh_qv fun τ15 => (isP (τ15.2.2 0 11)) ∧ nh_E kX5_gather 0 [some (.ref 21), some (.ref (τ15.2.2 0 11)), some (.ref 12), some (.ref 4), some (.int x2), none] [] τ15 (nh_qv fun τ19 => (isP (τ19.2.2 0 11)) ∧ nh_E kX5_countNever 0 [some (.ref 21), some (.int (τ19.1 (τ19.2.2 0 11) 1)), none] [] τ19 (nh_qv fun τ23 => (isP (τ23.2.2 0 11)) ∧ nh_E kX8_two 137 [some (.ref 0), none, none, none, some (.int x4), some (.int ((1 <<< ((τ23.1 (τ23.2.2 0 11) 1) &&& 31)) - 1)), some (.int (-1)), some (.int 0), none, none, none] [] τ23 Q))))))) ∧ (¬ (x4 ≤ 9999) → (Q (some (.int (-1000002))) σ)))))) ∧ ((x3 < 0) ∨ ¬ (x3 < σ.1 (σ.2.2 0 11) 0) → (Q (some (.int (-1000001))) σ))))))) : nh_E kX8_two 0 [some (.ref 0), some (.int x1), some (.int x2), some (.int x3), some (.int x4), none, none, none, none, none, none] [] σ Q := by
  refine nE_aload_n dX8_two_0 rfl rfl ?_
  refine nE_iload_n dX8_two_1 rfl rfl ?_
  obtain ⟨g1, h⟩ := h
  refine nE_callV (As := [.int x1]) yf_X8_noHouse ⟨by decide, by decide⟩ rfl rfl sC_0 rfl vl_X8_143 dX8_two_2 rfl rfl (Nat.le_of_ble_eq_true rfl) (Nat.le_of_ble_eq_true rfl) (p_X8_noHouse _ g1 ?_)
  refine nE_ifb_ne (tgt := 24) dX8_two_5 (by decide) ⟨fun c2 => ?_, fun c2 => ?_⟩
  · have h := h.1 c2
    refine nE_ldc kc_X8_147 dX8_two_24 ?_
    exact nE_iret dX8_two_26 rfl h
  · have h := h.2 c2
    refine nE_aload_n dX8_two_8 rfl rfl ?_
    refine nE_iload_n dX8_two_9 rfl rfl ?_
    refine nE_callV (As := [.int x2]) yf_X8_noHouse ⟨by decide, by decide⟩ rfl rfl sC_0 rfl vl_X8_143 dX8_two_10 rfl rfl (Nat.le_of_ble_eq_true rfl) (Nat.le_of_ble_eq_true rfl) (p_X8_noHouse _ g1 ?_)
    refine nE_ifb_ne (tgt := 24) dX8_two_13 (by decide) ⟨fun c3 => ?_, fun c3 => ?_⟩
    · have h := h.1 c3
      refine nE_ldc kc_X8_147 dX8_two_24 ?_
      exact nE_iret dX8_two_26 rfl h
    · have h := h.2 c3
      refine nE_aload_n dX8_two_16 rfl rfl ?_
      refine nE_iload_n dX8_two_17 rfl rfl ?_
      refine nE_callV (As := [.int x3]) yf_X8_noHouse ⟨by decide, by decide⟩ rfl rfl sC_0 rfl vl_X8_143 dX8_two_18 rfl rfl (Nat.le_of_ble_eq_true rfl) (Nat.le_of_ble_eq_true rfl) (p_X8_noHouse _ g1 ?_)
      refine nE_ifb_eq (tgt := 27) dX8_two_21 (by decide) ⟨fun c4 => ?_, fun c4 => ?_⟩
      · have h := h.1 c4
        refine nE_iload dX8_two_27 rfl ?_
        refine nE_if_lt (tgt := 40) dX8_two_29 (by decide) ⟨fun c5 => ?_, fun c5 => ?_⟩
        · have h := h.1 c5
          refine nE_ldc kc_X8_93 dX8_two_40 ?_
          exact nE_iret dX8_two_42 rfl h
        · have h := h.2 c5
          refine nE_iload dX8_two_32 rfl ?_
          refine nE_sipush (v := 9999) dX8_two_34 (by decide) ?_
          refine nE_icmp_le (tgt := 43) dX8_two_37 (by decide) ⟨fun c6 => ?_, fun c6 => ?_⟩
          · have h := h.1 c6
            refine nE_aload_n dX8_two_43 rfl rfl ?_
            refine nE_iload_n dX8_two_44 rfl rfl ?_
            refine nE_callV (As := [.int x3]) yf_X8_wakeAll ⟨by decide, by decide⟩ rfl rfl sC_0 rfl vl_X8_187 dX8_two_45 rfl rfl (Nat.le_of_ble_eq_true rfl) (Nat.le_of_ble_eq_true rfl) (nE_mono (fun z9 τ7 h => ?_) h)
            obtain ⟨rfl, h⟩ := h
            refine nE_aload_n dX8_two_48 rfl rfl ?_
            refine nE_getC fl_X8_39 sC_0 rfl dX8_two_49 ?_
            refine nE_aload_n dX8_two_52 rfl rfl ?_
            obtain ⟨g10, h⟩ := h
            refine nE_getR fl_X8_73 sC_0 rfl dX8_two_53 ?_
            refine nE_aload_n dX8_two_56 rfl rfl ?_
            refine nE_getC fl_X8_32 sC_0 rfl dX8_two_57 ?_
            refine nE_aload_n dX8_two_60 rfl rfl ?_
            refine nE_getC fl_X8_19 sC_0 rfl dX8_two_61 ?_
            refine nE_getC fl_X8_168 (sN_0 isN_3) rfl dX8_two_64 ?_
            refine nE_iload_n dX8_two_67 rfl rfl ?_
            refine nE_callV (As := [.ref (τ7.2.2 0 11), .ref 12, .ref 4, .int x1]) yf_X5_gather ⟨by decide, by decide⟩ rfl rfl (sG_0 isG_17) rfl vl_X8_223 dX8_two_68 rfl rfl (Nat.le_of_ble_eq_true rfl) (Nat.le_of_ble_eq_true rfl) (nE_mono (fun z13 τ11 h => ?_) h)
            obtain ⟨rfl, h⟩ := h
            refine nE_aload_n dX8_two_71 rfl rfl ?_
            refine nE_getC fl_X8_39 sC_0 rfl dX8_two_72 ?_
            refine nE_aload_n dX8_two_75 rfl rfl ?_
            obtain ⟨g14, h⟩ := h
            refine nE_getR fl_X8_73 sC_0 rfl dX8_two_76 ?_
            refine nE_getI fl_X8_130 (sP_0 g14) rfl dX8_two_79 ?_
            refine nE_callV (As := [.int (τ11.1 (τ11.2.2 0 11) 1)]) yf_X5_countNever ⟨by decide, by decide⟩ rfl rfl (sG_0 isG_17) rfl vl_X8_294 dX8_two_82 rfl rfl (Nat.le_of_ble_eq_true rfl) (Nat.le_of_ble_eq_true rfl) (nE_mono (fun z17 τ15 h => ?_) h)
            obtain ⟨rfl, h⟩ := h
            refine nE_aload_n dX8_two_85 rfl rfl ?_
            refine nE_getC fl_X8_43 sC_0 rfl dX8_two_86 ?_
            refine nE_aload_n dX8_two_89 rfl rfl ?_
            obtain ⟨g18, h⟩ := h
            refine nE_getR fl_X8_73 sC_0 rfl dX8_two_90 ?_
            refine nE_aload_n dX8_two_93 rfl rfl ?_
            refine nE_getC fl_X8_32 sC_0 rfl dX8_two_94 ?_
            refine nE_aload_n dX8_two_97 rfl rfl ?_
            refine nE_getC fl_X8_19 sC_0 rfl dX8_two_98 ?_
            refine nE_getC fl_X8_168 (sN_0 isN_3) rfl dX8_two_101 ?_
            refine nE_iload_n dX8_two_104 rfl rfl ?_
            refine nE_callV (As := [.ref (τ15.2.2 0 11), .ref 12, .ref 4, .int x2]) yf_X5_gather ⟨by decide, by decide⟩ rfl rfl (sG_0 isG_21) rfl vl_X8_223 dX8_two_105 rfl rfl (Nat.le_of_ble_eq_true rfl) (Nat.le_of_ble_eq_true rfl) (nE_mono (fun z21 τ19 h => ?_) h)
            obtain ⟨rfl, h⟩ := h
            refine nE_aload_n dX8_two_108 rfl rfl ?_
            refine nE_getC fl_X8_43 sC_0 rfl dX8_two_109 ?_
            refine nE_aload_n dX8_two_112 rfl rfl ?_
            obtain ⟨g22, h⟩ := h
            refine nE_getR fl_X8_73 sC_0 rfl dX8_two_113 ?_
            refine nE_getI fl_X8_130 (sP_0 g22) rfl dX8_two_116 ?_
            refine nE_callV (As := [.int (τ19.1 (τ19.2.2 0 11) 1)]) yf_X5_countNever ⟨by decide, by decide⟩ rfl rfl (sG_0 isG_21) rfl vl_X8_294 dX8_two_119 rfl rfl (Nat.le_of_ble_eq_true rfl) (Nat.le_of_ble_eq_true rfl) (nE_mono (fun z25 τ23 h => ?_) h)
            obtain ⟨rfl, h⟩ := h
            refine nE_aload_n dX8_two_122 rfl rfl ?_
            obtain ⟨g26, h⟩ := h
            refine nE_getR fl_X8_73 sC_0 rfl dX8_two_123 ?_
            refine nE_callV (As := []) yf_X3_allParts ⟨by decide, by decide⟩ rfl rfl (sP_0 g26) rfl vl_X8_227 dX8_two_126 rfl rfl (Nat.le_of_ble_eq_true rfl) (Nat.le_of_ble_eq_true rfl) (p_X3_allParts g26 ?_)
            refine nE_istore dX8_two_129 rfl (by decide) ?_
            refine nE_iconst (v := (-1)) dX8_two_131 (by decide) ?_
            refine nE_istore dX8_two_132 rfl (by decide) ?_
            refine nE_iconst (v := 0) dX8_two_134 (by decide) ?_
            refine nE_istore dX8_two_135 rfl (by decide) ?_
            refine nE_weak 1 ?_
            refine nE_weak 2 ?_
            refine nE_weak 3 ?_
            exact h
          · have h := h.2 c6
            refine nE_ldc kc_X8_93 dX8_two_40 ?_
            exact nE_iret dX8_two_42 rfl h
      · have h := h.2 c4
        refine nE_ldc kc_X8_147 dX8_two_24 ?_
        exact nE_iret dX8_two_26 rfl h
set_option maxRecDepth 20000 in
theorem sg_X8_two_137 (x4 : Int32) (x5 : Int32) (x6 : Int32) (x7 : Int32) {σ : nh_S} {Q : Option Value → nh_S → Prop} (h : (x5 < x7 → (Q (some (.int x6)) σ)) ∧ (¬ (x5 < x7) → ((isP (σ.2.2 0 11)) ∧ nh_E kX3_canBeIn 0 [some (.ref (σ.2.2 0 11)), some (.int x7), none, none] [] σ (nh_qi fun r4 τ3 => (isP (τ3.2.2 0 11)) ∧ nh_E kX3_canBeIn 0 [some (.ref (τ3.2.2 0 11)), some (.int (x5 &&& (x7 ^^^ (-1)))), none, none] [] τ3 (nh_qi fun r8 τ7 => (isP (τ7.2.2 0 11)) ∧ nh_E kX3_gainOf 0 [some (.ref (τ7.2.2 0 11)), some (.int r4), none, none] [] τ7 (nh_qi fun r12 τ11 => (r12 < x4 → (nh_E kX8_two 137 [some (.ref 0), none, none, none, some (.int x4), some (.int x5), some (.int x6), some (.int (x7 + 1)), none, none, none] [] τ11 Q)) ∧ (¬ (r12 < x4) → ((isP (τ11.2.2 0 11)) ∧ nh_E kX3_gainOf 0 [some (.ref (τ11.2.2 0 11)), some (.int r8), none, none] [] τ11 (nh_qi fun r17 τ16 => (r17 < x4 → (nh_E kX8_two 137 [some (.ref 0), none, none, none, some (.int x4), some (.int x5), some (.int x6), some (.int (x7 + 1)), none, none, none] [] τ16 Q)) ∧ (¬ (r17 < x4) → ((isP (τ16.2.2 0 11)) ∧ nh_E kX5_run 0 [some (.ref 17), some (.ref (τ16.2.2 0 11)), some (.int r4), none] [] τ16 (nh_qi fun r22 τ21 => (x6 = (-1) → ((isP (τ21.2.2 0 11)) ∧ nh_E kX5_run 0 [some (.ref 21), some (.ref (τ21.2.2 0 11)), some (.int r8), none] [] τ21 (nh_qi fun r27 τ26 => nh_E kX8_two 137 [some (.ref 0), none, none, none, some (.int x4), some (.int x5), some (.int (if x6 = (-1) then (if r22 < r27 then r27 else r22) else (if (if r22 < r27 then r27 else r22) < x6 then (if r22 < r27 then r27 else r22) else x6))), some (.int (x7 + 1)), none, none, none] [] τ26 Q))) ∧ (¬ (x6 = (-1)) → ((x6 ≤ r22 → (nh_E kX8_two 137 [some (.ref 0), none, none, none, some (.int x4), some (.int x5), some (.int x6), some (.int (x7 + 1)), none, none, none] [] τ21 Q)) ∧ (¬ (x6 ≤ r22) → ((isP (τ21.2.2 0 11)) ∧ nh_E kX5_run 0 [some (.ref 21), some (.ref (τ21.2.2 0 11)), some (.int r8), none] [] τ21 (nh_qi fun r36 τ35 => nh_E kX8_two 137 [some (.ref 0), none, none, none, some (.int x4), some (.int x5), some (.int (if x6 = (-1) then (if r22 < r36 then r36 else r22) else (if (if r22 < r36 then r36 else r22) < x6 then (if r22 < r36 then r36 else r22) else x6))), some (.int (x7 + 1)), none, none, none] [] τ35 Q))))))))))))))))) : nh_E kX8_two 137 [some (.ref 0), none, none, none, some (.int x4), some (.int x5), some (.int x6), some (.int x7), none, none, none] [] σ Q := by
  refine nE_iload dX8_two_137 rfl ?_
  refine nE_iload dX8_two_139 rfl ?_
  refine nE_icmp_gt (tgt := 273) dX8_two_141 (by decide) ⟨fun c1 => ?_, fun c1 => ?_⟩
  · have h := h.1 c1
    refine nE_iload dX8_two_273 rfl ?_
    exact nE_iret dX8_two_275 rfl h
  · have h := h.2 c1
    refine nE_aload_n dX8_two_144 rfl rfl ?_
    obtain ⟨g2, h⟩ := h
    refine nE_getR fl_X8_73 sC_0 rfl dX8_two_145 ?_
    refine nE_iload dX8_two_148 rfl ?_
    refine nE_callV (As := [.int x7]) yf_X3_canBeIn ⟨by decide, by decide⟩ rfl rfl (sP_0 g2) rfl vl_X8_271 dX8_two_150 rfl rfl (Nat.le_of_ble_eq_true rfl) (Nat.le_of_ble_eq_true rfl) (nE_mono (fun z5 τ3 h => ?_) h)
    obtain ⟨r4, rfl, h⟩ := h
    refine nE_istore dX8_two_153 rfl (by decide) ?_
    refine nE_aload_n dX8_two_155 rfl rfl ?_
    obtain ⟨g6, h⟩ := h
    refine nE_getR fl_X8_73 sC_0 rfl dX8_two_156 ?_
    refine nE_iload dX8_two_159 rfl ?_
    refine nE_iload dX8_two_161 rfl ?_
    refine nE_iconst (v := (-1)) dX8_two_163 (by decide) ?_
    refine nE_ixor dX8_two_164 ?_
    refine nE_iand dX8_two_165 ?_
    refine nE_callV (As := [.int (x5 &&& (x7 ^^^ (-1)))]) yf_X3_canBeIn ⟨by decide, by decide⟩ rfl rfl (sP_0 g6) rfl vl_X8_271 dX8_two_166 rfl rfl (Nat.le_of_ble_eq_true rfl) (Nat.le_of_ble_eq_true rfl) (nE_mono (fun z9 τ7 h => ?_) h)
    obtain ⟨r8, rfl, h⟩ := h
    refine nE_istore dX8_two_169 rfl (by decide) ?_
    refine nE_aload_n dX8_two_171 rfl rfl ?_
    obtain ⟨g10, h⟩ := h
    refine nE_getR fl_X8_73 sC_0 rfl dX8_two_172 ?_
    refine nE_iload dX8_two_175 rfl ?_
    refine nE_callV (As := [.int r4]) yf_X3_gainOf ⟨by decide, by decide⟩ rfl rfl (sP_0 g10) rfl vl_X8_274 dX8_two_177 rfl rfl (Nat.le_of_ble_eq_true rfl) (Nat.le_of_ble_eq_true rfl) (nE_mono (fun z13 τ11 h => ?_) h)
    obtain ⟨r12, rfl, h⟩ := h
    refine nE_iload dX8_two_180 rfl ?_
    refine nE_icmp_lt (tgt := 267) dX8_two_182 (by decide) ⟨fun c14 => ?_, fun c14 => ?_⟩
    · have h := h.1 c14
      refine nE_iinc (v := x7 + 1) dX8_two_267 rfl rfl (by decide) rfl ?_
      refine nE_goto (tgt := 137) dX8_two_270 (by decide) ?_
      refine nE_weak 8 ?_
      refine nE_weak 9 ?_
      exact h
    · have h := h.2 c14
      refine nE_aload_n dX8_two_185 rfl rfl ?_
      obtain ⟨g15, h⟩ := h
      refine nE_getR fl_X8_73 sC_0 rfl dX8_two_186 ?_
      refine nE_iload dX8_two_189 rfl ?_
      refine nE_callV (As := [.int r8]) yf_X3_gainOf ⟨by decide, by decide⟩ rfl rfl (sP_0 g15) rfl vl_X8_274 dX8_two_191 rfl rfl (Nat.le_of_ble_eq_true rfl) (Nat.le_of_ble_eq_true rfl) (nE_mono (fun z18 τ16 h => ?_) h)
      obtain ⟨r17, rfl, h⟩ := h
      refine nE_iload dX8_two_194 rfl ?_
      refine nE_icmp_lt (tgt := 267) dX8_two_196 (by decide) ⟨fun c19 => ?_, fun c19 => ?_⟩
      · have h := h.1 c19
        refine nE_iinc (v := x7 + 1) dX8_two_267 rfl rfl (by decide) rfl ?_
        refine nE_goto (tgt := 137) dX8_two_270 (by decide) ?_
        refine nE_weak 8 ?_
        refine nE_weak 9 ?_
        exact h
      · have h := h.2 c19
        refine nE_aload_n dX8_two_199 rfl rfl ?_
        refine nE_getC fl_X8_39 sC_0 rfl dX8_two_200 ?_
        refine nE_aload_n dX8_two_203 rfl rfl ?_
        obtain ⟨g20, h⟩ := h
        refine nE_getR fl_X8_73 sC_0 rfl dX8_two_204 ?_
        refine nE_iload dX8_two_207 rfl ?_
        refine nE_callV (As := [.ref (τ16.2.2 0 11), .int r4]) yf_X5_run ⟨by decide, by decide⟩ rfl rfl (sG_0 isG_17) rfl vl_X8_230 dX8_two_209 rfl rfl (Nat.le_of_ble_eq_true rfl) (Nat.le_of_ble_eq_true rfl) (nE_mono (fun z23 τ21 h => ?_) h)
        obtain ⟨r22, rfl, h⟩ := h
        refine nE_istore dX8_two_212 rfl (by decide) ?_
        refine nE_iload dX8_two_214 rfl ?_
        refine nE_iconst (v := (-1)) dX8_two_216 (by decide) ?_
        refine nE_icmp_eq (tgt := 227) dX8_two_217 (by decide) ⟨fun c24 => ?_, fun c24 => ?_⟩
        · have h := h.1 c24
          refine nE_iload dX8_two_227 rfl ?_
          refine nE_aload_n dX8_two_229 rfl rfl ?_
          refine nE_getC fl_X8_43 sC_0 rfl dX8_two_230 ?_
          refine nE_aload_n dX8_two_233 rfl rfl ?_
          obtain ⟨g25, h⟩ := h
          refine nE_getR fl_X8_73 sC_0 rfl dX8_two_234 ?_
          refine nE_iload dX8_two_237 rfl ?_
          refine nE_callV (As := [.ref (τ21.2.2 0 11), .int r8]) yf_X5_run ⟨by decide, by decide⟩ rfl rfl (sG_0 isG_21) rfl vl_X8_230 dX8_two_239 rfl rfl (Nat.le_of_ble_eq_true rfl) (Nat.le_of_ble_eq_true rfl) (nE_mono (fun z28 τ26 h => ?_) h)
          obtain ⟨r27, rfl, h⟩ := h
          refine nE_mmax mm_X8_236 ⟨by decide, Nat.le_of_ble_eq_true rfl⟩ dX8_two_242 ?_
          refine nE_istore dX8_two_245 rfl (by decide) ?_
          refine nE_iload dX8_two_247 rfl ?_
          refine nE_iconst (v := (-1)) dX8_two_249 (by decide) ?_
          have j29 : nh_E kX8_two 265 [some (.ref 0), none, none, none, some (.int x4), some (.int x5), some (.int x6), some (.int x7), some (.int r4), some (.int r8), some (.int (if r22 < r27 then r27 else r22))] [.int (if x6 = (-1) then (if r22 < r27 then r27 else r22) else (if (if r22 < r27 then r27 else r22) < x6 then (if r22 < r27 then r27 else r22) else x6))] τ26 Q := by
            refine nE_istore dX8_two_265 rfl (by decide) ?_
            refine nE_iinc (v := x7 + 1) dX8_two_267 rfl rfl (by decide) rfl ?_
            refine nE_goto (tgt := 137) dX8_two_270 (by decide) ?_
            refine nE_weak 8 ?_
            refine nE_weak 9 ?_
            refine nE_weak 10 ?_
            exact h
          refine nE_icmp_ne (tgt := 258) dX8_two_250 (by decide) ⟨fun c30 => ?_, fun c30 => ?_⟩
          · skip
            have f31 : (x6 = (-1)) = False := eq_false c30
            refine nE_iload dX8_two_258 rfl ?_
            refine nE_iload dX8_two_260 rfl ?_
            refine nE_mmin mm_X8_297 ⟨by decide, Nat.le_of_ble_eq_true rfl⟩ dX8_two_262 ?_
            exact nh_topi (show ((if x6 = (-1) then (if r22 < r27 then r27 else r22) else (if (if r22 < r27 then r27 else r22) < x6 then (if r22 < r27 then r27 else r22) else x6)) : Int32) = (if (if r22 < r27 then r27 else r22) < x6 then (if r22 < r27 then r27 else r22) else x6) from by simp only [if_true, if_false, not_true_eq_false, not_false_eq_true, true_and, and_true, false_and, and_false, true_or, or_true, false_or, or_false, if_pos, if_neg, ite_true, ite_false, f31]) j29
          · skip
            have f32 : (x6 = (-1)) = True := eq_true c30
            refine nE_iload dX8_two_253 rfl ?_
            refine nE_goto (tgt := 265) dX8_two_255 (by decide) ?_
            exact nh_topi (show ((if x6 = (-1) then (if r22 < r27 then r27 else r22) else (if (if r22 < r27 then r27 else r22) < x6 then (if r22 < r27 then r27 else r22) else x6)) : Int32) = (if r22 < r27 then r27 else r22) from by simp only [if_true, if_false, not_true_eq_false, not_false_eq_true, true_and, and_true, false_and, and_false, true_or, or_true, false_or, or_false, if_pos, if_neg, ite_true, ite_false, f32]) j29
        · have h := h.2 c24
          refine nE_iload dX8_two_220 rfl ?_
          refine nE_iload dX8_two_222 rfl ?_
          refine nE_icmp_ge (tgt := 267) dX8_two_224 (by decide) ⟨fun c33 => ?_, fun c33 => ?_⟩
          · have h := h.1 c33
            refine nE_iinc (v := x7 + 1) dX8_two_267 rfl rfl (by decide) rfl ?_
            refine nE_goto (tgt := 137) dX8_two_270 (by decide) ?_
            refine nE_weak 8 ?_
            refine nE_weak 9 ?_
            refine nE_weak 10 ?_
            exact h
          · have h := h.2 c33
            refine nE_iload dX8_two_227 rfl ?_
            refine nE_aload_n dX8_two_229 rfl rfl ?_
            refine nE_getC fl_X8_43 sC_0 rfl dX8_two_230 ?_
            refine nE_aload_n dX8_two_233 rfl rfl ?_
            obtain ⟨g34, h⟩ := h
            refine nE_getR fl_X8_73 sC_0 rfl dX8_two_234 ?_
            refine nE_iload dX8_two_237 rfl ?_
            refine nE_callV (As := [.ref (τ21.2.2 0 11), .int r8]) yf_X5_run ⟨by decide, by decide⟩ rfl rfl (sG_0 isG_21) rfl vl_X8_230 dX8_two_239 rfl rfl (Nat.le_of_ble_eq_true rfl) (Nat.le_of_ble_eq_true rfl) (nE_mono (fun z37 τ35 h => ?_) h)
            obtain ⟨r36, rfl, h⟩ := h
            refine nE_mmax mm_X8_236 ⟨by decide, Nat.le_of_ble_eq_true rfl⟩ dX8_two_242 ?_
            refine nE_istore dX8_two_245 rfl (by decide) ?_
            refine nE_iload dX8_two_247 rfl ?_
            refine nE_iconst (v := (-1)) dX8_two_249 (by decide) ?_
            have j38 : nh_E kX8_two 265 [some (.ref 0), none, none, none, some (.int x4), some (.int x5), some (.int x6), some (.int x7), some (.int r4), some (.int r8), some (.int (if r22 < r36 then r36 else r22))] [.int (if x6 = (-1) then (if r22 < r36 then r36 else r22) else (if (if r22 < r36 then r36 else r22) < x6 then (if r22 < r36 then r36 else r22) else x6))] τ35 Q := by
              refine nE_istore dX8_two_265 rfl (by decide) ?_
              refine nE_iinc (v := x7 + 1) dX8_two_267 rfl rfl (by decide) rfl ?_
              refine nE_goto (tgt := 137) dX8_two_270 (by decide) ?_
              refine nE_weak 8 ?_
              refine nE_weak 9 ?_
              refine nE_weak 10 ?_
              exact h
            refine nE_icmp_ne (tgt := 258) dX8_two_250 (by decide) ⟨fun c39 => ?_, fun c39 => ?_⟩
            · skip
              have f40 : (x6 = (-1)) = False := eq_false c39
              refine nE_iload dX8_two_258 rfl ?_
              refine nE_iload dX8_two_260 rfl ?_
              refine nE_mmin mm_X8_297 ⟨by decide, Nat.le_of_ble_eq_true rfl⟩ dX8_two_262 ?_
              exact nh_topi (show ((if x6 = (-1) then (if r22 < r36 then r36 else r22) else (if (if r22 < r36 then r36 else r22) < x6 then (if r22 < r36 then r36 else r22) else x6)) : Int32) = (if (if r22 < r36 then r36 else r22) < x6 then (if r22 < r36 then r36 else r22) else x6) from by simp only [if_true, if_false, not_true_eq_false, not_false_eq_true, true_and, and_true, false_and, and_false, true_or, or_true, false_or, or_false, if_pos, if_neg, ite_true, ite_false, f40]) j38
            · skip
              have f41 : (x6 = (-1)) = True := eq_true c39
              refine nE_iload dX8_two_253 rfl ?_
              refine nE_goto (tgt := 265) dX8_two_255 (by decide) ?_
              exact nh_topi (show ((if x6 = (-1) then (if r22 < r36 then r36 else r22) else (if (if r22 < r36 then r36 else r22) < x6 then (if r22 < r36 then r36 else r22) else x6)) : Int32) = (if r22 < r36 then r36 else r22) from by simp only [if_true, if_false, not_true_eq_false, not_false_eq_true, true_and, and_true, false_and, and_false, true_or, or_true, false_or, or_false, if_pos, if_neg, ite_true, ite_false, f41]) j38
set_option maxRecDepth 20000 in
theorem sg_X8_log_0 (x1 : Int32) (x2 : Int32) {σ : nh_S} {Q : Option Value → nh_S → Prop} (h : (isP (σ.2.2 0 11)) ∧ (¬ ((x1 < 0) ∨ ¬ (x1 < σ.1 (σ.2.2 0 11) 1)) → ((x2 < 0 → (Q (some (.int (-1000002))) σ)) ∧ (¬ (x2 < 0) → ((x2 ≤ 999 → ((vp_in x1 12) ∧ nh_E kX8_countLogged 0 [some (.ref 0), none, none] [] (nh_wa σ 31 x1.toNatClampNeg x2) (nh_qi fun r7 τ6 => Q (some (.int r7)) τ6))) ∧ (¬ (x2 ≤ 999) → (Q (some (.int (-1000002))) σ)))))) ∧ ((x1 < 0) ∨ ¬ (x1 < σ.1 (σ.2.2 0 11) 1) → (Q (some (.int (-1000001))) σ))) : nh_E kX8_log 0 [some (.ref 0), some (.int x1), some (.int x2)] [] σ Q := by
  refine nE_aload_n dX8_log_0 rfl rfl ?_
  refine nE_iload_n dX8_log_1 rfl rfl ?_
  obtain ⟨g1, h⟩ := h
  refine nE_callV (As := [.int x1]) yf_X8_noPart ⟨by decide, by decide⟩ rfl rfl sC_0 rfl vl_X8_165 dX8_log_2 rfl rfl (Nat.le_of_ble_eq_true rfl) (Nat.le_of_ble_eq_true rfl) (p_X8_noPart _ g1 ?_)
  refine nE_ifb_eq (tgt := 11) dX8_log_5 (by decide) ⟨fun c2 => ?_, fun c2 => ?_⟩
  · have h := h.1 c2
    refine nE_iload_n dX8_log_11 rfl rfl ?_
    refine nE_if_lt (tgt := 22) dX8_log_12 (by decide) ⟨fun c3 => ?_, fun c3 => ?_⟩
    · have h := h.1 c3
      refine nE_ldc kc_X8_93 dX8_log_22 ?_
      exact nE_iret dX8_log_24 rfl h
    · have h := h.2 c3
      refine nE_iload_n dX8_log_15 rfl rfl ?_
      refine nE_sipush (v := 999) dX8_log_16 (by decide) ?_
      refine nE_icmp_le (tgt := 25) dX8_log_19 (by decide) ⟨fun c4 => ?_, fun c4 => ?_⟩
      · have h := h.1 c4
        refine nE_aload_n dX8_log_25 rfl rfl ?_
        refine nE_getC fl_X8_64 sC_0 rfl dX8_log_26 ?_
        refine nE_iload_n dX8_log_29 rfl rfl ?_
        refine nE_iload_n dX8_log_30 rfl rfl ?_
        obtain ⟨g5, h⟩ := h
        refine nG_iast (j := x1.toNatClampNeg) sC_31 rfl dX8_log_31 ⟨g5, ?_⟩
        refine nE_aload_n dX8_log_32 rfl rfl ?_
        refine nE_callV (As := []) yf_X8_countLogged ⟨by decide, by decide⟩ rfl rfl sC_0 rfl vl_X8_139 dX8_log_33 rfl rfl (Nat.le_of_ble_eq_true rfl) (Nat.le_of_ble_eq_true rfl) (nE_mono (fun z8 τ6 h => ?_) h)
        obtain ⟨r7, rfl, h⟩ := h
        exact nE_iret dX8_log_36 rfl h
      · have h := h.2 c4
        refine nE_ldc kc_X8_93 dX8_log_22 ?_
        exact nE_iret dX8_log_24 rfl h
  · have h := h.2 c2
    refine nE_ldc kc_X8_147 dX8_log_8 ?_
    exact nE_iret dX8_log_10 rfl h
set_option maxRecDepth 20000 in
theorem sg_X8_clear_0  {σ : nh_S} {Q : Option Value → nh_S → Prop} (h : nh_E kX8_countLogged 0 [some (.ref 0), none, none] [] σ (nh_qi fun r2 τ1 => nh_E kJ7_fill_53178 0 [some (.ref 31), some (.int (-1)), none, none] [] τ1 (nh_qv fun τ4 => Q (some (.int r2)) τ4))) : nh_E kX8_clear 0 [some (.ref 0), none] [] σ Q := by
  refine nE_aload_n dX8_clear_0 rfl rfl ?_
  refine nE_callV (As := []) yf_X8_countLogged ⟨by decide, by decide⟩ rfl rfl sC_0 rfl vl_X8_139 dX8_clear_1 rfl rfl (Nat.le_of_ble_eq_true rfl) (Nat.le_of_ble_eq_true rfl) (nE_mono (fun z3 τ1 h => ?_) h)
  obtain ⟨r2, rfl, h⟩ := h
  refine nE_istore_n dX8_clear_4 rfl rfl (by decide) ?_
  refine nE_aload_n dX8_clear_5 rfl rfl ?_
  refine nE_getC fl_X8_64 sC_0 rfl dX8_clear_6 ?_
  refine nE_iconst (v := (-1)) dX8_clear_9 (by decide) ?_
  refine nE_callS (As := [.ref 31, .int (-1)]) yf_J7_fill_53178 ⟨by decide, by decide⟩ rfl sl_X8_300 dX8_clear_10 rfl rfl (Nat.le_of_ble_eq_true rfl) (Nat.le_of_ble_eq_true rfl) (nE_mono (fun z6 τ4 h => ?_) h)
  obtain ⟨rfl, h⟩ := h
  refine nE_iload_n dX8_clear_13 rfl rfl ?_
  exact nE_iret dX8_clear_14 rfl h
set_option maxRecDepth 20000 in
theorem sg_X8_late_0 (x1 : Int32) (x2 : Int32) (x3 : Int32) {σ : nh_S} {Q : Option Value → nh_S → Prop} (h : (isP (σ.2.2 0 11)) ∧ ((x1 < 0) ∨ ¬ (x1 < σ.1 (σ.2.2 0 11) 0) → (Q (some (.int (-1000001))) σ)) ∧ (¬ ((x1 < 0) ∨ ¬ (x1 < σ.1 (σ.2.2 0 11) 0)) → (((x2 < 0) ∨ ¬ (x2 < σ.1 (σ.2.2 0 11) 0) → (Q (some (.int (-1000001))) σ)) ∧ (¬ ((x2 < 0) ∨ ¬ (x2 < σ.1 (σ.2.2 0 11) 0)) → ((¬ ((x3 < 0) ∨ ¬ (x3 < σ.1 (σ.2.2 0 11) 1)) → (nh_E kX8_wakeAll 0 [some (.ref 0), some (.int x2)] [] σ (nh_qv fun τ5 => (isP (τ5.2.2 0 11)) ∧ (vp_in x3 12) ∧ nh_E kX7_arrival 0 [some (.ref 12), some (.ref (τ5.2.2 0 11)), some (.int (τ5.2.1 4 x3.toNatClampNeg)), some (.int x1)] [] τ5 (nh_qi fun r11 τ10 => nh_E kX8_lateBy 0 [some (.ref 0), some (.int x3), some (.int r11)] [] τ10 (nh_qi fun r14 τ13 => Q (some (.int r14)) τ13))))) ∧ ((x3 < 0) ∨ ¬ (x3 < σ.1 (σ.2.2 0 11) 1) → (Q (some (.int (-1000001))) σ))))))) : nh_E kX8_late 0 [some (.ref 0), some (.int x1), some (.int x2), some (.int x3)] [] σ Q := by
  refine nE_aload_n dX8_late_0 rfl rfl ?_
  refine nE_iload_n dX8_late_1 rfl rfl ?_
  obtain ⟨g1, h⟩ := h
  refine nE_callV (As := [.int x1]) yf_X8_noHouse ⟨by decide, by decide⟩ rfl rfl sC_0 rfl vl_X8_143 dX8_late_2 rfl rfl (Nat.le_of_ble_eq_true rfl) (Nat.le_of_ble_eq_true rfl) (p_X8_noHouse _ g1 ?_)
  refine nE_ifb_ne (tgt := 24) dX8_late_5 (by decide) ⟨fun c2 => ?_, fun c2 => ?_⟩
  · have h := h.1 c2
    refine nE_ldc kc_X8_147 dX8_late_24 ?_
    exact nE_iret dX8_late_26 rfl h
  · have h := h.2 c2
    refine nE_aload_n dX8_late_8 rfl rfl ?_
    refine nE_iload_n dX8_late_9 rfl rfl ?_
    refine nE_callV (As := [.int x2]) yf_X8_noHouse ⟨by decide, by decide⟩ rfl rfl sC_0 rfl vl_X8_143 dX8_late_10 rfl rfl (Nat.le_of_ble_eq_true rfl) (Nat.le_of_ble_eq_true rfl) (p_X8_noHouse _ g1 ?_)
    refine nE_ifb_ne (tgt := 24) dX8_late_13 (by decide) ⟨fun c3 => ?_, fun c3 => ?_⟩
    · have h := h.1 c3
      refine nE_ldc kc_X8_147 dX8_late_24 ?_
      exact nE_iret dX8_late_26 rfl h
    · have h := h.2 c3
      refine nE_aload_n dX8_late_16 rfl rfl ?_
      refine nE_iload_n dX8_late_17 rfl rfl ?_
      refine nE_callV (As := [.int x3]) yf_X8_noPart ⟨by decide, by decide⟩ rfl rfl sC_0 rfl vl_X8_165 dX8_late_18 rfl rfl (Nat.le_of_ble_eq_true rfl) (Nat.le_of_ble_eq_true rfl) (p_X8_noPart _ g1 ?_)
      refine nE_ifb_eq (tgt := 27) dX8_late_21 (by decide) ⟨fun c4 => ?_, fun c4 => ?_⟩
      · have h := h.1 c4
        refine nE_aload_n dX8_late_27 rfl rfl ?_
        refine nE_iload_n dX8_late_28 rfl rfl ?_
        refine nE_callV (As := [.int x2]) yf_X8_wakeAll ⟨by decide, by decide⟩ rfl rfl sC_0 rfl vl_X8_187 dX8_late_29 rfl rfl (Nat.le_of_ble_eq_true rfl) (Nat.le_of_ble_eq_true rfl) (nE_mono (fun z7 τ5 h => ?_) h)
        obtain ⟨rfl, h⟩ := h
        refine nE_aload_n dX8_late_32 rfl rfl ?_
        refine nE_iload_n dX8_late_33 rfl rfl ?_
        refine nE_aload_n dX8_late_34 rfl rfl ?_
        refine nE_getC fl_X8_32 sC_0 rfl dX8_late_35 ?_
        refine nE_aload_n dX8_late_38 rfl rfl ?_
        obtain ⟨g8, h⟩ := h
        refine nE_getR fl_X8_73 sC_0 rfl dX8_late_39 ?_
        refine nE_aload_n dX8_late_42 rfl rfl ?_
        refine nE_getC fl_X8_19 sC_0 rfl dX8_late_43 ?_
        refine nE_getC fl_X8_168 (sN_0 isN_3) rfl dX8_late_46 ?_
        refine nE_iload_n dX8_late_49 rfl rfl ?_
        obtain ⟨g9, h⟩ := h
        refine nG_iald (j := x3.toNatClampNeg) (sN_1 isN_3) rfl dX8_late_50 ⟨g9, ?_⟩
        refine nE_iload_n dX8_late_51 rfl rfl ?_
        refine nE_callV (As := [.ref (τ5.2.2 0 11), .int (τ5.2.1 4 x3.toNatClampNeg), .int x1]) yf_X7_arrival ⟨by decide, by decide⟩ rfl rfl sC_12 rfl vl_X8_194 dX8_late_52 rfl rfl (Nat.le_of_ble_eq_true rfl) (Nat.le_of_ble_eq_true rfl) (nE_mono (fun z12 τ10 h => ?_) h)
        obtain ⟨r11, rfl, h⟩ := h
        refine nE_callV (As := [.int x3, .int r11]) yf_X8_lateBy ⟨by decide, by decide⟩ rfl rfl sC_0 rfl vl_X8_306 dX8_late_55 rfl rfl (Nat.le_of_ble_eq_true rfl) (Nat.le_of_ble_eq_true rfl) (nE_mono (fun z15 τ13 h => ?_) h)
        obtain ⟨r14, rfl, h⟩ := h
        exact nE_iret dX8_late_58 rfl h
      · have h := h.2 c4
        refine nE_ldc kc_X8_147 dX8_late_24 ?_
        exact nE_iret dX8_late_26 rfl h
set_option maxRecDepth 20000 in
theorem sg_X8_judge_0 (x1 : Int32) (x2 : Int32) (x3 : Int32) {σ : nh_S} {Q : Option Value → nh_S → Prop} (h : (isP (σ.2.2 0 11)) ∧ ((x1 < 0) ∨ ¬ (x1 < σ.1 (σ.2.2 0 11) 0) → (Q (some (.int (-1000001))) σ)) ∧ (¬ ((x1 < 0) ∨ ¬ (x1 < σ.1 (σ.2.2 0 11) 0)) → ((¬ ((x2 < 0) ∨ ¬ (x2 < σ.1 (σ.2.2 0 11) 0)) → ((x3 < 0 → (Q (some (.int (-1000002))) σ)) ∧ (¬ (x3 < 0) → ((x3 ≤ 1 → (nh_E kX8_wakeAll 0 [some (.ref 0), some (.int x2)] [] σ (nh_qv fun τ6 => (isP (τ6.2.2 0 11)) ∧ nh_E kX5_gather 0 [some (.ref 17), some (.ref (τ6.2.2 0 11)), some (.ref 12), some (.ref 4), some (.int x1), none] [] τ6 (nh_qv fun τ10 => (¬ (x3 = 0) → (nh_E kX8_standsByLog 0 [some (.ref 0), none] [] τ10 (nh_qi fun r15 τ14 => Q (some (.int r15)) τ14))) ∧ (x3 = 0 → (nh_E kX8_findLatest 0 [some (.ref 0), none, none, none, none] [] τ10 (nh_qi fun r18 τ17 => Q (some (.int r18)) τ17))))))) ∧ (¬ (x3 ≤ 1) → (Q (some (.int (-1000002))) σ)))))) ∧ ((x2 < 0) ∨ ¬ (x2 < σ.1 (σ.2.2 0 11) 0) → (Q (some (.int (-1000001))) σ))))) : nh_E kX8_judge 0 [some (.ref 0), some (.int x1), some (.int x2), some (.int x3)] [] σ Q := by
  refine nE_aload_n dX8_judge_0 rfl rfl ?_
  refine nE_iload_n dX8_judge_1 rfl rfl ?_
  obtain ⟨g1, h⟩ := h
  refine nE_callV (As := [.int x1]) yf_X8_noHouse ⟨by decide, by decide⟩ rfl rfl sC_0 rfl vl_X8_143 dX8_judge_2 rfl rfl (Nat.le_of_ble_eq_true rfl) (Nat.le_of_ble_eq_true rfl) (p_X8_noHouse _ g1 ?_)
  refine nE_ifb_ne (tgt := 16) dX8_judge_5 (by decide) ⟨fun c2 => ?_, fun c2 => ?_⟩
  · have h := h.1 c2
    refine nE_ldc kc_X8_147 dX8_judge_16 ?_
    exact nE_iret dX8_judge_18 rfl h
  · have h := h.2 c2
    refine nE_aload_n dX8_judge_8 rfl rfl ?_
    refine nE_iload_n dX8_judge_9 rfl rfl ?_
    refine nE_callV (As := [.int x2]) yf_X8_noHouse ⟨by decide, by decide⟩ rfl rfl sC_0 rfl vl_X8_143 dX8_judge_10 rfl rfl (Nat.le_of_ble_eq_true rfl) (Nat.le_of_ble_eq_true rfl) (p_X8_noHouse _ g1 ?_)
    refine nE_ifb_eq (tgt := 19) dX8_judge_13 (by decide) ⟨fun c3 => ?_, fun c3 => ?_⟩
    · have h := h.1 c3
      refine nE_iload_n dX8_judge_19 rfl rfl ?_
      refine nE_if_lt (tgt := 28) dX8_judge_20 (by decide) ⟨fun c4 => ?_, fun c4 => ?_⟩
      · have h := h.1 c4
        refine nE_ldc kc_X8_93 dX8_judge_28 ?_
        exact nE_iret dX8_judge_30 rfl h
      · have h := h.2 c4
        refine nE_iload_n dX8_judge_23 rfl rfl ?_
        refine nE_iconst (v := 1) dX8_judge_24 (by decide) ?_
        refine nE_icmp_le (tgt := 31) dX8_judge_25 (by decide) ⟨fun c5 => ?_, fun c5 => ?_⟩
        · have h := h.1 c5
          refine nE_aload_n dX8_judge_31 rfl rfl ?_
          refine nE_iload_n dX8_judge_32 rfl rfl ?_
          refine nE_callV (As := [.int x2]) yf_X8_wakeAll ⟨by decide, by decide⟩ rfl rfl sC_0 rfl vl_X8_187 dX8_judge_33 rfl rfl (Nat.le_of_ble_eq_true rfl) (Nat.le_of_ble_eq_true rfl) (nE_mono (fun z8 τ6 h => ?_) h)
          obtain ⟨rfl, h⟩ := h
          refine nE_aload_n dX8_judge_36 rfl rfl ?_
          refine nE_getC fl_X8_39 sC_0 rfl dX8_judge_37 ?_
          refine nE_aload_n dX8_judge_40 rfl rfl ?_
          obtain ⟨g9, h⟩ := h
          refine nE_getR fl_X8_73 sC_0 rfl dX8_judge_41 ?_
          refine nE_aload_n dX8_judge_44 rfl rfl ?_
          refine nE_getC fl_X8_32 sC_0 rfl dX8_judge_45 ?_
          refine nE_aload_n dX8_judge_48 rfl rfl ?_
          refine nE_getC fl_X8_19 sC_0 rfl dX8_judge_49 ?_
          refine nE_getC fl_X8_168 (sN_0 isN_3) rfl dX8_judge_52 ?_
          refine nE_iload_n dX8_judge_55 rfl rfl ?_
          refine nE_callV (As := [.ref (τ6.2.2 0 11), .ref 12, .ref 4, .int x1]) yf_X5_gather ⟨by decide, by decide⟩ rfl rfl (sG_0 isG_17) rfl vl_X8_223 dX8_judge_56 rfl rfl (Nat.le_of_ble_eq_true rfl) (Nat.le_of_ble_eq_true rfl) (nE_mono (fun z12 τ10 h => ?_) h)
          obtain ⟨rfl, h⟩ := h
          refine nE_iload_n dX8_judge_59 rfl rfl ?_
          refine nE_if_ne (tgt := 70) dX8_judge_60 (by decide) ⟨fun c13 => ?_, fun c13 => ?_⟩
          · have h := h.1 c13
            refine nE_aload_n dX8_judge_70 rfl rfl ?_
            refine nE_callV (As := []) yf_X8_standsByLog ⟨by decide, by decide⟩ rfl rfl sC_0 rfl vl_X8_312 dX8_judge_71 rfl rfl (Nat.le_of_ble_eq_true rfl) (Nat.le_of_ble_eq_true rfl) (nE_mono (fun z16 τ14 h => ?_) h)
            obtain ⟨r15, rfl, h⟩ := h
            exact nE_iret dX8_judge_74 rfl h
          · have h := h.2 c13
            refine nE_aload_n dX8_judge_63 rfl rfl ?_
            refine nE_callV (As := []) yf_X8_findLatest ⟨by decide, by decide⟩ rfl rfl sC_0 rfl vl_X8_309 dX8_judge_64 rfl rfl (Nat.le_of_ble_eq_true rfl) (Nat.le_of_ble_eq_true rfl) (nE_mono (fun z19 τ17 h => ?_) h)
            obtain ⟨r18, rfl, h⟩ := h
            refine nE_goto (tgt := 74) dX8_judge_67 (by decide) ?_
            exact nE_iret dX8_judge_74 rfl h
        · have h := h.2 c5
          refine nE_ldc kc_X8_93 dX8_judge_28 ?_
          exact nE_iret dX8_judge_30 rfl h
    · have h := h.2 c3
      refine nE_ldc kc_X8_147 dX8_judge_16 ?_
      exact nE_iret dX8_judge_18 rfl h
set_option maxRecDepth 20000 in
theorem sg_X8_seed_0 (x1 : Int32) {σ : nh_S} {Q : Option Value → nh_S → Prop} (h : (0 ≤ x1 → (Q (some (.int (σ.1 3 3))) (nh_si σ 3 3 x1))) ∧ (¬ (0 ≤ x1) → (Q (some (.int (-1000002))) σ))) : nh_E kX8_seed 0 [some (.ref 0), some (.int x1), none] [] σ Q := by
  refine nE_iload_n dX8_seed_0 rfl rfl ?_
  refine nE_if_ge (tgt := 7) dX8_seed_1 (by decide) ⟨fun c1 => ?_, fun c1 => ?_⟩
  · have h := h.1 c1
    refine nE_aload_n dX8_seed_7 rfl rfl ?_
    refine nE_getC fl_X8_19 sC_0 rfl dX8_seed_8 ?_
    refine nE_getI fl_X8_315 (sN_0 isN_3) rfl dX8_seed_11 ?_
    refine nE_istore_n dX8_seed_14 rfl rfl (by decide) ?_
    refine nE_aload_n dX8_seed_15 rfl rfl ?_
    refine nE_getC fl_X8_19 sC_0 rfl dX8_seed_16 ?_
    refine nE_iload_n dX8_seed_19 rfl rfl ?_
    refine nE_putI fl_X8_315 (sN_0 isN_3) rfl ⟨rfl, rfl⟩ dX8_seed_20 ?_
    refine nE_iload_n dX8_seed_23 rfl rfl ?_
    exact nE_iret dX8_seed_24 rfl h
  · have h := h.2 c1
    refine nE_ldc kc_X8_93 dX8_seed_4 ?_
    exact nE_iret dX8_seed_6 rfl h
set_option maxRecDepth 20000 in
theorem sg_X8_keep_0 (x1 : Int32) {σ : nh_S} {Q : Option Value → nh_S → Prop} (h : (x1 < 0 → (Q (some (.int (-1000001))) σ)) ∧ (¬ (x1 < 0) → ((x1 < 2 → ((¬ (x1 = 0) → (nh_E kX2_becomes 0 [some (.ref 9), some (.ref 3)] [] σ (nh_qv fun τ4 => Q (some (.int 1)) (nh_si τ4 9 4 1)))) ∧ (x1 = 0 → (nh_E kX2_becomes 0 [some (.ref 6), some (.ref 3)] [] σ (nh_qv fun τ7 => Q (some (.int 1)) (nh_si τ7 6 4 1)))))) ∧ (¬ (x1 < 2) → (Q (some (.int (-1000001))) σ))))) : nh_E kX8_keep 0 [some (.ref 0), some (.int x1), none] [] σ Q := by
  refine nE_iload_n dX8_keep_0 rfl rfl ?_
  refine nE_if_lt (tgt := 9) dX8_keep_1 (by decide) ⟨fun c1 => ?_, fun c1 => ?_⟩
  · have h := h.1 c1
    refine nE_ldc kc_X8_147 dX8_keep_9 ?_
    exact nE_iret dX8_keep_11 rfl h
  · have h := h.2 c1
    refine nE_iload_n dX8_keep_4 rfl rfl ?_
    refine nE_iconst (v := 2) dX8_keep_5 (by decide) ?_
    refine nE_icmp_lt (tgt := 12) dX8_keep_6 (by decide) ⟨fun c2 => ?_, fun c2 => ?_⟩
    · have h := h.1 c2
      refine nE_iload_n dX8_keep_12 rfl rfl ?_
      refine nE_if_ne (tgt := 23) dX8_keep_13 (by decide) ⟨fun c3 => ?_, fun c3 => ?_⟩
      · have h := h.1 c3
        refine nE_aload_n dX8_keep_23 rfl rfl ?_
        refine nE_getC fl_X8_26 sC_0 rfl dX8_keep_24 ?_
        refine nE_astore_n dX8_keep_27 rfl rfl (by decide) ?_
        refine nE_aload_n dX8_keep_28 rfl rfl ?_
        refine nE_aload_n dX8_keep_29 rfl rfl ?_
        refine nE_getC fl_X8_19 sC_0 rfl dX8_keep_30 ?_
        refine nE_callV (As := [.ref 3]) yf_X2_becomes ⟨by decide, by decide⟩ rfl rfl (sN_0 isN_9) rfl vl_X8_318 dX8_keep_33 rfl rfl (Nat.le_of_ble_eq_true rfl) (Nat.le_of_ble_eq_true rfl) (nE_mono (fun z6 τ4 h => ?_) h)
        obtain ⟨rfl, h⟩ := h
        refine nE_aload_n dX8_keep_36 rfl rfl ?_
        refine nE_iconst (v := 1) dX8_keep_37 (by decide) ?_
        refine nE_putI fl_X8_322 (sN_0 isN_9) rfl ⟨by decide, by decide⟩ dX8_keep_38 ?_
        refine nE_iconst (v := 1) dX8_keep_41 (by decide) ?_
        exact nE_iret dX8_keep_42 rfl h
      · have h := h.2 c3
        refine nE_aload_n dX8_keep_16 rfl rfl ?_
        refine nE_getC fl_X8_23 sC_0 rfl dX8_keep_17 ?_
        refine nE_goto (tgt := 27) dX8_keep_20 (by decide) ?_
        refine nE_astore_n dX8_keep_27 rfl rfl (by decide) ?_
        refine nE_aload_n dX8_keep_28 rfl rfl ?_
        refine nE_aload_n dX8_keep_29 rfl rfl ?_
        refine nE_getC fl_X8_19 sC_0 rfl dX8_keep_30 ?_
        refine nE_callV (As := [.ref 3]) yf_X2_becomes ⟨by decide, by decide⟩ rfl rfl (sN_0 isN_6) rfl vl_X8_318 dX8_keep_33 rfl rfl (Nat.le_of_ble_eq_true rfl) (Nat.le_of_ble_eq_true rfl) (nE_mono (fun z9 τ7 h => ?_) h)
        obtain ⟨rfl, h⟩ := h
        refine nE_aload_n dX8_keep_36 rfl rfl ?_
        refine nE_iconst (v := 1) dX8_keep_37 (by decide) ?_
        refine nE_putI fl_X8_322 (sN_0 isN_6) rfl ⟨by decide, by decide⟩ dX8_keep_38 ?_
        refine nE_iconst (v := 1) dX8_keep_41 (by decide) ?_
        exact nE_iret dX8_keep_42 rfl h
    · have h := h.2 c2
      refine nE_ldc kc_X8_147 dX8_keep_9 ?_
      exact nE_iret dX8_keep_11 rfl h
set_option maxRecDepth 20000 in
theorem sg_X8_goBack_0 (x1 : Int32) {σ : nh_S} {Q : Option Value → nh_S → Prop} (h : (x1 < 0 → (Q (some (.int (-1000001))) σ)) ∧ (¬ (x1 < 0) → ((x1 < 2 → ((¬ (x1 = 0) → ((¬ (σ.1 9 4 = 0) → (nh_E kX2_becomes 0 [some (.ref 3), some (.ref 9)] [] σ (nh_qv fun τ5 => Q (some (.int 1)) τ5))) ∧ (σ.1 9 4 = 0 → (Q (some (.int (-1000003))) σ)))) ∧ (x1 = 0 → ((¬ (σ.1 6 4 = 0) → (nh_E kX2_becomes 0 [some (.ref 3), some (.ref 6)] [] σ (nh_qv fun τ9 => Q (some (.int 1)) τ9))) ∧ (σ.1 6 4 = 0 → (Q (some (.int (-1000003))) σ)))))) ∧ (¬ (x1 < 2) → (Q (some (.int (-1000001))) σ))))) : nh_E kX8_goBack 0 [some (.ref 0), some (.int x1), none] [] σ Q := by
  refine nE_iload_n dX8_goBack_0 rfl rfl ?_
  refine nE_if_lt (tgt := 9) dX8_goBack_1 (by decide) ⟨fun c1 => ?_, fun c1 => ?_⟩
  · have h := h.1 c1
    refine nE_ldc kc_X8_147 dX8_goBack_9 ?_
    exact nE_iret dX8_goBack_11 rfl h
  · have h := h.2 c1
    refine nE_iload_n dX8_goBack_4 rfl rfl ?_
    refine nE_iconst (v := 2) dX8_goBack_5 (by decide) ?_
    refine nE_icmp_lt (tgt := 12) dX8_goBack_6 (by decide) ⟨fun c2 => ?_, fun c2 => ?_⟩
    · have h := h.1 c2
      refine nE_iload_n dX8_goBack_12 rfl rfl ?_
      refine nE_if_ne (tgt := 23) dX8_goBack_13 (by decide) ⟨fun c3 => ?_, fun c3 => ?_⟩
      · have h := h.1 c3
        refine nE_aload_n dX8_goBack_23 rfl rfl ?_
        refine nE_getC fl_X8_26 sC_0 rfl dX8_goBack_24 ?_
        refine nE_astore_n dX8_goBack_27 rfl rfl (by decide) ?_
        refine nE_aload_n dX8_goBack_28 rfl rfl ?_
        refine nE_getI fl_X8_322 (sN_0 isN_9) rfl dX8_goBack_29 ?_
        refine nE_if_ne (tgt := 38) dX8_goBack_32 (by decide) ⟨fun c4 => ?_, fun c4 => ?_⟩
        · have h := h.1 c4
          refine nE_aload_n dX8_goBack_38 rfl rfl ?_
          refine nE_getC fl_X8_19 sC_0 rfl dX8_goBack_39 ?_
          refine nE_aload_n dX8_goBack_42 rfl rfl ?_
          refine nE_callV (As := [.ref 9]) yf_X2_becomes ⟨by decide, by decide⟩ rfl rfl (sN_0 isN_3) rfl vl_X8_318 dX8_goBack_43 rfl rfl (Nat.le_of_ble_eq_true rfl) (Nat.le_of_ble_eq_true rfl) (nE_mono (fun z7 τ5 h => ?_) h)
          obtain ⟨rfl, h⟩ := h
          refine nE_iconst (v := 1) dX8_goBack_46 (by decide) ?_
          exact nE_iret dX8_goBack_47 rfl h
        · have h := h.2 c4
          refine nE_ldc kc_X8_120 dX8_goBack_35 ?_
          exact nE_iret dX8_goBack_37 rfl h
      · have h := h.2 c3
        refine nE_aload_n dX8_goBack_16 rfl rfl ?_
        refine nE_getC fl_X8_23 sC_0 rfl dX8_goBack_17 ?_
        refine nE_goto (tgt := 27) dX8_goBack_20 (by decide) ?_
        refine nE_astore_n dX8_goBack_27 rfl rfl (by decide) ?_
        refine nE_aload_n dX8_goBack_28 rfl rfl ?_
        refine nE_getI fl_X8_322 (sN_0 isN_6) rfl dX8_goBack_29 ?_
        refine nE_if_ne (tgt := 38) dX8_goBack_32 (by decide) ⟨fun c8 => ?_, fun c8 => ?_⟩
        · have h := h.1 c8
          refine nE_aload_n dX8_goBack_38 rfl rfl ?_
          refine nE_getC fl_X8_19 sC_0 rfl dX8_goBack_39 ?_
          refine nE_aload_n dX8_goBack_42 rfl rfl ?_
          refine nE_callV (As := [.ref 6]) yf_X2_becomes ⟨by decide, by decide⟩ rfl rfl (sN_0 isN_3) rfl vl_X8_318 dX8_goBack_43 rfl rfl (Nat.le_of_ble_eq_true rfl) (Nat.le_of_ble_eq_true rfl) (nE_mono (fun z11 τ9 h => ?_) h)
          obtain ⟨rfl, h⟩ := h
          refine nE_iconst (v := 1) dX8_goBack_46 (by decide) ?_
          exact nE_iret dX8_goBack_47 rfl h
        · have h := h.2 c8
          refine nE_ldc kc_X8_120 dX8_goBack_35 ?_
          exact nE_iret dX8_goBack_37 rfl h
    · have h := h.2 c2
      refine nE_ldc kc_X8_147 dX8_goBack_9 ?_
      exact nE_iret dX8_goBack_11 rfl h
set_option maxRecDepth 20000 in
theorem sg_X8_startAnew_0  {σ : nh_S} {Q : Option Value → nh_S → Prop} (h : (isL (σ.2.2 0 13)) ∧ (isP (σ.2.2 0 11)) ∧ nh_E kX2_begin 0 [some (.ref 3), some (.ref (σ.2.2 0 11)), none] [] (nh_si σ (σ.2.2 0 13) 0 0) (nh_qv fun τ3 => nh_E kJ7_fill_53178 0 [some (.ref 30), some (.int 10), none, none] [] (nh_si (nh_si τ3 6 4 0) 9 4 0) (nh_qv fun τ6 => nh_E kJ7_fill_53178 0 [some (.ref 31), some (.int (-1)), none, none] [] τ6 (nh_qv fun τ9 => Q none (nh_si τ9 0 16 0))))) : nh_E kX8_startAnew 0 [some (.ref 0)] [] σ Q := by
  refine nE_aload_n dX8_startAnew_0 rfl rfl ?_
  obtain ⟨g1, h⟩ := h
  refine nE_getR fl_X8_83 sC_0 rfl dX8_startAnew_1 ?_
  refine nE_iconst (v := 0) dX8_startAnew_4 (by decide) ?_
  refine nE_putI fl_X8_124 (sL_0 g1) rfl ⟨rfl, rfl⟩ dX8_startAnew_5 ?_
  refine nE_aload_n dX8_startAnew_8 rfl rfl ?_
  refine nE_getC fl_X8_19 sC_0 rfl dX8_startAnew_9 ?_
  refine nE_aload_n dX8_startAnew_12 rfl rfl ?_
  obtain ⟨g2, h⟩ := h
  refine nE_getR fl_X8_73 sC_0 rfl dX8_startAnew_13 ?_
  refine nE_callV (As := [.ref (σ.2.2 0 11)]) yf_X2_begin ⟨by decide, by decide⟩ rfl rfl (sN_0 isN_3) rfl vl_X8_326 dX8_startAnew_16 rfl rfl (Nat.le_of_ble_eq_true rfl) (Nat.le_of_ble_eq_true rfl) (nE_mono (fun z5 τ3 h => ?_) h)
  obtain ⟨rfl, h⟩ := h
  refine nE_aload_n dX8_startAnew_19 rfl rfl ?_
  refine nE_getC fl_X8_23 sC_0 rfl dX8_startAnew_20 ?_
  refine nE_iconst (v := 0) dX8_startAnew_23 (by decide) ?_
  refine nE_putI fl_X8_322 (sN_0 isN_6) rfl ⟨by decide, by decide⟩ dX8_startAnew_24 ?_
  refine nE_aload_n dX8_startAnew_27 rfl rfl ?_
  refine nE_getC fl_X8_26 sC_0 rfl dX8_startAnew_28 ?_
  refine nE_iconst (v := 0) dX8_startAnew_31 (by decide) ?_
  refine nE_putI fl_X8_322 (sN_0 isN_9) rfl ⟨by decide, by decide⟩ dX8_startAnew_32 ?_
  refine nE_aload_n dX8_startAnew_35 rfl rfl ?_
  refine nE_getC fl_X8_60 sC_0 rfl dX8_startAnew_36 ?_
  refine nE_bipush (v := 10) dX8_startAnew_39 (by decide) ?_
  refine nE_callS (As := [.ref 30, .int 10]) yf_J7_fill_53178 ⟨by decide, by decide⟩ rfl sl_X8_300 dX8_startAnew_41 rfl rfl (Nat.le_of_ble_eq_true rfl) (Nat.le_of_ble_eq_true rfl) (nE_mono (fun z8 τ6 h => ?_) h)
  obtain ⟨rfl, h⟩ := h
  refine nE_aload_n dX8_startAnew_44 rfl rfl ?_
  refine nE_getC fl_X8_64 sC_0 rfl dX8_startAnew_45 ?_
  refine nE_iconst (v := (-1)) dX8_startAnew_48 (by decide) ?_
  refine nE_callS (As := [.ref 31, .int (-1)]) yf_J7_fill_53178 ⟨by decide, by decide⟩ rfl sl_X8_300 dX8_startAnew_49 rfl rfl (Nat.le_of_ble_eq_true rfl) (Nat.le_of_ble_eq_true rfl) (nE_mono (fun z11 τ9 h => ?_) h)
  obtain ⟨rfl, h⟩ := h
  refine nE_aload_n dX8_startAnew_52 rfl rfl ?_
  refine nE_iconst (v := 0) dX8_startAnew_53 (by decide) ?_
  refine nE_putI fl_X8_136 sC_0 rfl ⟨rfl, rfl⟩ dX8_startAnew_54 ?_
  exact nE_vret dX8_startAnew_57 rfl h
set_option maxRecDepth 20000 in
theorem sg_X8_swap_0 {a0 n0 : Nat} (ha0 : shC[a0]? = some (.inl (.int, n0, none))) (x1 : Int32) (x2 : Int32) {σ : nh_S} {Q : Option Value → nh_S → Prop} (h : (vp_in x1 n0) ∧ (vp_in x2 n0) ∧ Q none (nh_wa (nh_wa σ a0 x1.toNatClampNeg (σ.2.1 a0 x2.toNatClampNeg)) a0 x2.toNatClampNeg (σ.2.1 a0 x1.toNatClampNeg))) : nh_E kX8_swap 0 [some (.ref a0), some (.int x1), some (.int x2), none] [] σ Q := by
  refine nE_aload_n dX8_swap_0 rfl rfl ?_
  refine nE_iload_n dX8_swap_1 rfl rfl ?_
  obtain ⟨g1, h⟩ := h
  refine nG_iald (j := x1.toNatClampNeg) ha0 rfl dX8_swap_2 ⟨g1, ?_⟩
  refine nE_istore_n dX8_swap_3 rfl rfl (by decide) ?_
  refine nE_aload_n dX8_swap_4 rfl rfl ?_
  refine nE_iload_n dX8_swap_5 rfl rfl ?_
  refine nE_aload_n dX8_swap_6 rfl rfl ?_
  refine nE_iload_n dX8_swap_7 rfl rfl ?_
  obtain ⟨g2, h⟩ := h
  refine nG_iald (j := x2.toNatClampNeg) ha0 rfl dX8_swap_8 ⟨g2, ?_⟩
  refine nG_iast (j := x1.toNatClampNeg) ha0 rfl dX8_swap_9 ⟨g1, ?_⟩
  refine nE_aload_n dX8_swap_10 rfl rfl ?_
  refine nE_iload_n dX8_swap_11 rfl rfl ?_
  refine nE_iload_n dX8_swap_12 rfl rfl ?_
  refine nG_iast (j := x2.toNatClampNeg) ha0 rfl dX8_swap_13 ⟨g2, ?_⟩
  exact nE_vret dX8_swap_14 rfl h
set_option maxRecDepth 20000 in
theorem sg_X8_wakeAll_0 (x1 : Int32) {σ : nh_S} {Q : Option Value → nh_S → Prop} (h : (isP (σ.2.2 0 11)) ∧ (isL (σ.2.2 0 13)) ∧ nh_E kX7_run 0 [some (.ref 12), some (.ref (σ.2.2 0 11)), some (.ref (σ.2.2 0 13)), some (.int x1), some (.int (σ.1 3 2)), none] [] σ (nh_qv fun τ3 => Q none τ3)) : nh_E kX8_wakeAll 0 [some (.ref 0), some (.int x1)] [] σ Q := by
  refine nE_aload_n dX8_wakeAll_0 rfl rfl ?_
  refine nE_getC fl_X8_32 sC_0 rfl dX8_wakeAll_1 ?_
  refine nE_aload_n dX8_wakeAll_4 rfl rfl ?_
  obtain ⟨g1, h⟩ := h
  refine nE_getR fl_X8_73 sC_0 rfl dX8_wakeAll_5 ?_
  refine nE_aload_n dX8_wakeAll_8 rfl rfl ?_
  obtain ⟨g2, h⟩ := h
  refine nE_getR fl_X8_83 sC_0 rfl dX8_wakeAll_9 ?_
  refine nE_iload_n dX8_wakeAll_12 rfl rfl ?_
  refine nE_aload_n dX8_wakeAll_13 rfl rfl ?_
  refine nE_getC fl_X8_19 sC_0 rfl dX8_wakeAll_14 ?_
  refine nE_getI fl_X8_133 (sN_0 isN_3) rfl dX8_wakeAll_17 ?_
  refine nE_callV (As := [.ref (σ.2.2 0 11), .ref (σ.2.2 0 13), .int x1, .int (σ.1 3 2)]) yf_X7_run ⟨by decide, by decide⟩ rfl rfl sC_12 rfl vl_X8_219 dX8_wakeAll_20 rfl rfl (Nat.le_of_ble_eq_true rfl) (Nat.le_of_ble_eq_true rfl) (nE_mono (fun z5 τ3 h => ?_) h)
  obtain ⟨rfl, h⟩ := h
  exact nE_vret dX8_wakeAll_23 rfl h
set_option maxRecDepth 20000 in
theorem sg_X8_raiseAll_0 (x1 : Int32) (x2 : Int32) {σ : nh_S} {Q : Option Value → nh_S → Prop} (h : nh_E kX8_wakeAll 0 [some (.ref 0), some (.int x2)] [] σ (nh_qv fun τ1 => (isP (τ1.2.2 0 11)) ∧ nh_E kX5_gather 0 [some (.ref 17), some (.ref (τ1.2.2 0 11)), some (.ref 12), some (.ref 4), some (.int x1), none] [] τ1 (nh_qv fun τ5 => (isP (τ5.2.2 0 11)) ∧ nh_E kX5_run 0 [some (.ref 17), some (.ref (τ5.2.2 0 11)), some (.int ((1 <<< ((τ5.1 (τ5.2.2 0 11) 1) &&& 31)) - 1)), none] [] τ5 (nh_qi fun r10 τ9 => Q (some (.int r10)) τ9)))) : nh_E kX8_raiseAll 0 [some (.ref 0), some (.int x1), some (.int x2)] [] σ Q := by
  refine nE_aload_n dX8_raiseAll_0 rfl rfl ?_
  refine nE_iload_n dX8_raiseAll_1 rfl rfl ?_
  refine nE_callV (As := [.int x2]) yf_X8_wakeAll ⟨by decide, by decide⟩ rfl rfl sC_0 rfl vl_X8_187 dX8_raiseAll_2 rfl rfl (Nat.le_of_ble_eq_true rfl) (Nat.le_of_ble_eq_true rfl) (nE_mono (fun z3 τ1 h => ?_) h)
  obtain ⟨rfl, h⟩ := h
  refine nE_aload_n dX8_raiseAll_5 rfl rfl ?_
  refine nE_getC fl_X8_39 sC_0 rfl dX8_raiseAll_6 ?_
  refine nE_aload_n dX8_raiseAll_9 rfl rfl ?_
  obtain ⟨g4, h⟩ := h
  refine nE_getR fl_X8_73 sC_0 rfl dX8_raiseAll_10 ?_
  refine nE_aload_n dX8_raiseAll_13 rfl rfl ?_
  refine nE_getC fl_X8_32 sC_0 rfl dX8_raiseAll_14 ?_
  refine nE_aload_n dX8_raiseAll_17 rfl rfl ?_
  refine nE_getC fl_X8_19 sC_0 rfl dX8_raiseAll_18 ?_
  refine nE_getC fl_X8_168 (sN_0 isN_3) rfl dX8_raiseAll_21 ?_
  refine nE_iload_n dX8_raiseAll_24 rfl rfl ?_
  refine nE_callV (As := [.ref (τ1.2.2 0 11), .ref 12, .ref 4, .int x1]) yf_X5_gather ⟨by decide, by decide⟩ rfl rfl (sG_0 isG_17) rfl vl_X8_223 dX8_raiseAll_25 rfl rfl (Nat.le_of_ble_eq_true rfl) (Nat.le_of_ble_eq_true rfl) (nE_mono (fun z7 τ5 h => ?_) h)
  obtain ⟨rfl, h⟩ := h
  refine nE_aload_n dX8_raiseAll_28 rfl rfl ?_
  refine nE_getC fl_X8_39 sC_0 rfl dX8_raiseAll_29 ?_
  refine nE_aload_n dX8_raiseAll_32 rfl rfl ?_
  obtain ⟨g8, h⟩ := h
  refine nE_getR fl_X8_73 sC_0 rfl dX8_raiseAll_33 ?_
  refine nE_aload_n dX8_raiseAll_36 rfl rfl ?_
  refine nE_getR fl_X8_73 sC_0 rfl dX8_raiseAll_37 ?_
  refine nE_callV (As := []) yf_X3_allParts ⟨by decide, by decide⟩ rfl rfl (sP_0 g8) rfl vl_X8_227 dX8_raiseAll_40 rfl rfl (Nat.le_of_ble_eq_true rfl) (Nat.le_of_ble_eq_true rfl) (p_X3_allParts g8 ?_)
  refine nE_callV (As := [.ref (τ5.2.2 0 11), .int ((1 <<< ((τ5.1 (τ5.2.2 0 11) 1) &&& 31)) - 1)]) yf_X5_run ⟨by decide, by decide⟩ rfl rfl (sG_0 isG_17) rfl vl_X8_230 dX8_raiseAll_43 rfl rfl (Nat.le_of_ble_eq_true rfl) (Nat.le_of_ble_eq_true rfl) (nE_mono (fun z11 τ9 h => ?_) h)
  obtain ⟨r10, rfl, h⟩ := h
  exact nE_iret dX8_raiseAll_46 rfl h
set_option maxRecDepth 20000 in
theorem sg_X8_countWays_0 (x1 : Int32) {σ : nh_S} {Q : Option Value → nh_S → Prop} (h : nh_E kJ7_fill_53178 0 [some (.ref 32), some (.int 0), none, none] [] σ (nh_qv fun τ1 => nh_E kX8_countWays 17 [some (.ref 0), some (.int x1), some (.int 0), none, none, none] [] (nh_wa τ1 32 0 1) Q)) : nh_E kX8_countWays 0 [some (.ref 0), some (.int x1), none, none, none, none] [] σ Q := by
  refine nE_aload_n dX8_countWays_0 rfl rfl ?_
  refine nE_getC fl_X8_67 sC_0 rfl dX8_countWays_1 ?_
  refine nE_iconst (v := 0) dX8_countWays_4 (by decide) ?_
  refine nE_callS (As := [.ref 32, .int 0]) yf_J7_fill_53178 ⟨by decide, by decide⟩ rfl sl_X8_300 dX8_countWays_5 rfl rfl (Nat.le_of_ble_eq_true rfl) (Nat.le_of_ble_eq_true rfl) (nE_mono (fun z3 τ1 h => ?_) h)
  obtain ⟨rfl, h⟩ := h
  refine nE_aload_n dX8_countWays_8 rfl rfl ?_
  refine nE_getC fl_X8_67 sC_0 rfl dX8_countWays_9 ?_
  refine nE_iconst (v := 0) dX8_countWays_12 (by decide) ?_
  refine nE_iconst (v := 1) dX8_countWays_13 (by decide) ?_
  refine nG_iast (j := 0) sC_32 (by decide) dX8_countWays_14 ⟨(nh_vi (by decide)), ?_⟩
  refine nE_iconst (v := 0) dX8_countWays_15 (by decide) ?_
  refine nE_istore_n dX8_countWays_16 rfl rfl (by decide) ?_
  exact h
set_option maxRecDepth 20000 in
theorem sg_X8_countWays_17 (x1 : Int32) (x2 : Int32) {σ : nh_S} {Q : Option Value → nh_S → Prop} (h : (isP (σ.2.2 0 11)) ∧ ((1 <<< ((σ.1 (σ.2.2 0 11) 1) &&& 31)) - 1 < x2 → (Q none σ)) ∧ (¬ ((1 <<< ((σ.1 (σ.2.2 0 11) 1) &&& 31)) - 1 < x2) → (nh_E kJ6_bitCount_0f7a4 0 [some (.int x2)] [] σ (nh_qi fun r4 τ3 => (vp_in x2 4096) ∧ (τ3.2.1 32 x2.toNatClampNeg ≤ 0 → (nh_E kX8_countWays 17 [some (.ref 0), some (.int x1), some (.int (x2 + 1)), none, none, none] [] τ3 Q)) ∧ (¬ (τ3.2.1 32 x2.toNatClampNeg ≤ 0) → ((isP (τ3.2.2 0 11)) ∧ (τ3.1 (τ3.2.2 0 11) 1 ≤ r4 → (nh_E kX8_countWays 17 [some (.ref 0), some (.int x1), some (.int (x2 + 1)), none, none, none] [] τ3 Q)) ∧ (¬ (τ3.1 (τ3.2.2 0 11) 1 ≤ r4) → ((vp_in r4 12) ∧ nh_E kX8_countWays 73 [some (.ref 0), some (.int x1), some (.int x2), none, some (.int (((τ3.2.1 5 r4.toNatClampNeg) &&& x1) &&& (x2 ^^^ (-1)))), some (.int 0)] [] τ3 Q)))))))) : nh_E kX8_countWays 17 [some (.ref 0), some (.int x1), some (.int x2), none, none, none] [] σ Q := by
  refine nE_iload_n dX8_countWays_17 rfl rfl ?_
  refine nE_aload_n dX8_countWays_18 rfl rfl ?_
  obtain ⟨g1, h⟩ := h
  refine nE_getR fl_X8_73 sC_0 rfl dX8_countWays_19 ?_
  refine nE_callV (As := []) yf_X3_allParts ⟨by decide, by decide⟩ rfl rfl (sP_0 g1) rfl vl_X8_227 dX8_countWays_22 rfl rfl (Nat.le_of_ble_eq_true rfl) (Nat.le_of_ble_eq_true rfl) (p_X3_allParts g1 ?_)
  refine nE_icmp_gt (tgt := 127) dX8_countWays_25 (by decide) ⟨fun c2 => ?_, fun c2 => ?_⟩
  · have h := h.1 c2
    exact nE_vret dX8_countWays_127 rfl h
  · have h := h.2 c2
    refine nE_iload_n dX8_countWays_28 rfl rfl ?_
    refine nE_callS (As := [.int x2]) yf_J6_bitCount_0f7a4 ⟨by decide, by decide⟩ rfl sl_X8_277 dX8_countWays_29 rfl rfl (Nat.le_of_ble_eq_true rfl) (Nat.le_of_ble_eq_true rfl) (nE_mono (fun z5 τ3 h => ?_) h)
    obtain ⟨r4, rfl, h⟩ := h
    refine nE_istore_n dX8_countWays_32 rfl rfl (by decide) ?_
    refine nE_aload_n dX8_countWays_33 rfl rfl ?_
    refine nE_getC fl_X8_67 sC_0 rfl dX8_countWays_34 ?_
    refine nE_iload_n dX8_countWays_37 rfl rfl ?_
    obtain ⟨g6, h⟩ := h
    refine nG_iald (j := x2.toNatClampNeg) sC_32 rfl dX8_countWays_38 ⟨g6, ?_⟩
    refine nE_if_le (tgt := 121) dX8_countWays_39 (by decide) ⟨fun c7 => ?_, fun c7 => ?_⟩
    · have h := h.1 c7
      refine nE_iinc (v := x2 + 1) dX8_countWays_121 rfl rfl (by decide) rfl ?_
      refine nE_goto (tgt := 17) dX8_countWays_124 (by decide) ?_
      refine nE_weak 3 ?_
      exact h
    · have h := h.2 c7
      refine nE_iload_n dX8_countWays_42 rfl rfl ?_
      refine nE_aload_n dX8_countWays_43 rfl rfl ?_
      obtain ⟨g8, h⟩ := h
      refine nE_getR fl_X8_73 sC_0 rfl dX8_countWays_44 ?_
      refine nE_getI fl_X8_130 (sP_0 g8) rfl dX8_countWays_47 ?_
      refine nE_icmp_ge (tgt := 121) dX8_countWays_50 (by decide) ⟨fun c9 => ?_, fun c9 => ?_⟩
      · have h := h.1 c9
        refine nE_iinc (v := x2 + 1) dX8_countWays_121 rfl rfl (by decide) rfl ?_
        refine nE_goto (tgt := 17) dX8_countWays_124 (by decide) ?_
        refine nE_weak 3 ?_
        exact h
      · have h := h.2 c9
        refine nE_aload_n dX8_countWays_53 rfl rfl ?_
        refine nE_getC fl_X8_19 sC_0 rfl dX8_countWays_54 ?_
        refine nE_getC fl_X8_180 (sN_0 isN_3) rfl dX8_countWays_57 ?_
        refine nE_iload_n dX8_countWays_60 rfl rfl ?_
        obtain ⟨g10, h⟩ := h
        refine nG_iald (j := r4.toNatClampNeg) (sN_2 isN_3) rfl dX8_countWays_61 ⟨g10, ?_⟩
        refine nE_iload_n dX8_countWays_62 rfl rfl ?_
        refine nE_iand dX8_countWays_63 ?_
        refine nE_iload_n dX8_countWays_64 rfl rfl ?_
        refine nE_iconst (v := (-1)) dX8_countWays_65 (by decide) ?_
        refine nE_ixor dX8_countWays_66 ?_
        refine nE_iand dX8_countWays_67 ?_
        refine nE_istore dX8_countWays_68 rfl (by decide) ?_
        refine nE_iconst (v := 0) dX8_countWays_70 (by decide) ?_
        refine nE_istore dX8_countWays_71 rfl (by decide) ?_
        refine nE_weak 3 ?_
        exact h
set_option maxRecDepth 20000 in
theorem sg_X8_countWays_73 (x1 : Int32) (x2 : Int32) (x4 : Int32) (x5 : Int32) {σ : nh_S} {Q : Option Value → nh_S → Prop} (h : (isP (σ.2.2 0 11)) ∧ (σ.1 (σ.2.2 0 11) 1 ≤ x5 → (nh_E kX8_countWays 17 [some (.ref 0), some (.int x1), some (.int (x2 + 1)), none, none, none] [] σ Q)) ∧ (¬ (σ.1 (σ.2.2 0 11) 1 ≤ x5) → ((¬ (nh_hs x4 x5) → (nh_E kX8_countWays 73 [some (.ref 0), some (.int x1), some (.int x2), none, some (.int x4), some (.int (x5 + 1))] [] σ Q)) ∧ (nh_hs x4 x5 → ((vp_in (x2 ||| (1 <<< (x5 &&& 31))) 4096) ∧ (vp_in x2 4096) ∧ nh_E kX8_countWays 73 [some (.ref 0), some (.int x1), some (.int x2), none, some (.int x4), some (.int (x5 + 1))] [] (nh_wa σ 32 ((x2 ||| (1 <<< (x5 &&& 31))).toNatClampNeg) ((σ.2.1 32 ((x2 ||| (1 <<< (x5 &&& 31))).toNatClampNeg)) + (σ.2.1 32 x2.toNatClampNeg))) Q))))) : nh_E kX8_countWays 73 [some (.ref 0), some (.int x1), some (.int x2), none, some (.int x4), some (.int x5)] [] σ Q := by
  refine nE_iload dX8_countWays_73 rfl ?_
  refine nE_aload_n dX8_countWays_75 rfl rfl ?_
  obtain ⟨g1, h⟩ := h
  refine nE_getR fl_X8_73 sC_0 rfl dX8_countWays_76 ?_
  refine nE_getI fl_X8_130 (sP_0 g1) rfl dX8_countWays_79 ?_
  refine nE_icmp_ge (tgt := 121) dX8_countWays_82 (by decide) ⟨fun c2 => ?_, fun c2 => ?_⟩
  · have h := h.1 c2
    refine nE_iinc (v := x2 + 1) dX8_countWays_121 rfl rfl (by decide) rfl ?_
    refine nE_goto (tgt := 17) dX8_countWays_124 (by decide) ?_
    refine nE_weak 4 ?_
    refine nE_weak 5 ?_
    exact h
  · have h := h.2 c2
    refine nE_iload dX8_countWays_85 rfl ?_
    refine nE_iload dX8_countWays_87 rfl ?_
    refine nE_callS (As := [.int x4, .int x5]) yf_X8_has ⟨by decide, by decide⟩ rfl sl_X8_212 dX8_countWays_89 rfl rfl (Nat.le_of_ble_eq_true rfl) (Nat.le_of_ble_eq_true rfl) (p_X8_has _ _ ?_)
    refine nE_ifb_eq (tgt := 115) dX8_countWays_92 (by decide) ⟨fun c3 => ?_, fun c3 => ?_⟩
    · have h := h.1 c3
      refine nE_iinc (v := x5 + 1) dX8_countWays_115 rfl rfl (by decide) rfl ?_
      refine nE_goto (tgt := 73) dX8_countWays_118 (by decide) ?_
      exact h
    · have h := h.2 c3
      refine nE_aload_n dX8_countWays_95 rfl rfl ?_
      refine nE_getC fl_X8_67 sC_0 rfl dX8_countWays_96 ?_
      refine nE_iload_n dX8_countWays_99 rfl rfl ?_
      refine nE_iconst (v := 1) dX8_countWays_100 (by decide) ?_
      refine nE_iload dX8_countWays_101 rfl ?_
      refine nE_ishl dX8_countWays_103 ?_
      refine nE_ior dX8_countWays_104 ?_
      refine nE_dup2 dX8_countWays_105 rfl rfl ?_
      obtain ⟨g4, h⟩ := h
      refine nG_iald (j := (x2 ||| (1 <<< (x5 &&& 31))).toNatClampNeg) sC_32 rfl dX8_countWays_106 ⟨g4, ?_⟩
      refine nE_aload_n dX8_countWays_107 rfl rfl ?_
      refine nE_getC fl_X8_67 sC_0 rfl dX8_countWays_108 ?_
      refine nE_iload_n dX8_countWays_111 rfl rfl ?_
      obtain ⟨g5, h⟩ := h
      refine nG_iald (j := x2.toNatClampNeg) sC_32 rfl dX8_countWays_112 ⟨g5, ?_⟩
      refine nE_iadd dX8_countWays_113 ?_
      refine nG_iast (j := (x2 ||| (1 <<< (x5 &&& 31))).toNatClampNeg) sC_32 rfl dX8_countWays_114 ⟨g4, ?_⟩
      refine nE_iinc (v := x5 + 1) dX8_countWays_115 rfl rfl (by decide) rfl ?_
      refine nE_goto (tgt := 73) dX8_countWays_118 (by decide) ?_
      exact h
set_option maxRecDepth 20000 in
theorem sg_X8_costOf_0 (x1 : Int32) {σ : nh_S} {Q : Option Value → nh_S → Prop} (h : nh_E kX8_costOf 4 [some (.ref 0), some (.int x1), some (.int 0), some (.int 0)] [] σ Q) : nh_E kX8_costOf 0 [some (.ref 0), some (.int x1), none, none] [] σ Q := by
  refine nE_iconst (v := 0) dX8_costOf_0 (by decide) ?_
  refine nE_istore_n dX8_costOf_1 rfl rfl (by decide) ?_
  refine nE_iconst (v := 0) dX8_costOf_2 (by decide) ?_
  refine nE_istore_n dX8_costOf_3 rfl rfl (by decide) ?_
  exact h
set_option maxRecDepth 20000 in
theorem sg_X8_costOf_4 (x1 : Int32) (x2 : Int32) (x3 : Int32) {σ : nh_S} {Q : Option Value → nh_S → Prop} (h : (isP (σ.2.2 0 11)) ∧ (σ.1 (σ.2.2 0 11) 1 ≤ x3 → (Q (some (.int x2)) σ)) ∧ (¬ (σ.1 (σ.2.2 0 11) 1 ≤ x3) → ((¬ (nh_hs x1 x3) → (nh_E kX8_costOf 4 [some (.ref 0), some (.int x1), some (.int x2), some (.int (x3 + 1))] [] σ Q)) ∧ (nh_hs x1 x3 → ((vp_in x3 12) ∧ nh_E kX8_costOf 4 [some (.ref 0), some (.int x1), some (.int (x2 + (σ.2.1 30 x3.toNatClampNeg))), some (.int (x3 + 1))] [] σ Q))))) : nh_E kX8_costOf 4 [some (.ref 0), some (.int x1), some (.int x2), some (.int x3)] [] σ Q := by
  refine nE_iload_n dX8_costOf_4 rfl rfl ?_
  refine nE_aload_n dX8_costOf_5 rfl rfl ?_
  obtain ⟨g1, h⟩ := h
  refine nE_getR fl_X8_73 sC_0 rfl dX8_costOf_6 ?_
  refine nE_getI fl_X8_130 (sP_0 g1) rfl dX8_costOf_9 ?_
  refine nE_icmp_ge (tgt := 38) dX8_costOf_12 (by decide) ⟨fun c2 => ?_, fun c2 => ?_⟩
  · have h := h.1 c2
    refine nE_iload_n dX8_costOf_38 rfl rfl ?_
    exact nE_iret dX8_costOf_39 rfl h
  · have h := h.2 c2
    refine nE_iload_n dX8_costOf_15 rfl rfl ?_
    refine nE_iload_n dX8_costOf_16 rfl rfl ?_
    refine nE_callS (As := [.int x1, .int x3]) yf_X8_has ⟨by decide, by decide⟩ rfl sl_X8_212 dX8_costOf_17 rfl rfl (Nat.le_of_ble_eq_true rfl) (Nat.le_of_ble_eq_true rfl) (p_X8_has _ _ ?_)
    refine nE_ifb_eq (tgt := 32) dX8_costOf_20 (by decide) ⟨fun c3 => ?_, fun c3 => ?_⟩
    · have h := h.1 c3
      refine nE_iinc (v := x3 + 1) dX8_costOf_32 rfl rfl (by decide) rfl ?_
      refine nE_goto (tgt := 4) dX8_costOf_35 (by decide) ?_
      exact h
    · have h := h.2 c3
      refine nE_iload_n dX8_costOf_23 rfl rfl ?_
      refine nE_aload_n dX8_costOf_24 rfl rfl ?_
      refine nE_getC fl_X8_60 sC_0 rfl dX8_costOf_25 ?_
      refine nE_iload_n dX8_costOf_28 rfl rfl ?_
      obtain ⟨g4, h⟩ := h
      refine nG_iald (j := x3.toNatClampNeg) sC_30 rfl dX8_costOf_29 ⟨g4, ?_⟩
      refine nE_iadd dX8_costOf_30 ?_
      refine nE_istore_n dX8_costOf_31 rfl rfl (by decide) ?_
      refine nE_iinc (v := x3 + 1) dX8_costOf_32 rfl rfl (by decide) rfl ?_
      refine nE_goto (tgt := 4) dX8_costOf_35 (by decide) ?_
      exact h
set_option maxRecDepth 20000 in
theorem sg_X8_standsWith_0 (x1 : Int32) (x2 : Int32) {σ : nh_S} {Q : Option Value → nh_S → Prop} (h : nh_E kX8_standsWith 2 [some (.ref 0), some (.int x1), some (.int x2), some (.int 0)] [] σ Q) : nh_E kX8_standsWith 0 [some (.ref 0), some (.int x1), some (.int x2), none] [] σ Q := by
  refine nE_iconst (v := 0) dX8_standsWith_0 (by decide) ?_
  refine nE_istore_n dX8_standsWith_1 rfl rfl (by decide) ?_
  exact h
set_option maxRecDepth 20000 in
theorem sg_X8_standsWith_2 (x1 : Int32) (x2 : Int32) (x3 : Int32) {σ : nh_S} {Q : Option Value → nh_S → Prop} (h : (isP (σ.2.2 0 11)) ∧ (σ.1 (σ.2.2 0 11) 1 ≤ x3 → (nh_E kX5_run 0 [some (.ref 21), some (.ref (σ.2.2 0 11)), some (.int ((1 <<< ((σ.1 (σ.2.2 0 11) 1) &&& 31)) - 1)), none] [] σ (nh_qi fun r4 τ3 => Q (some (.int (if r4 = (-1) then 500 else r4))) τ3))) ∧ (¬ (σ.1 (σ.2.2 0 11) 1 ≤ x3) → (((¬ (nh_hs x1 x3) → (vp_in x3 12))) ∧ (vp_in x3 12) ∧ nh_E kX8_standsWith 2 [some (.ref 0), some (.int x1), some (.int x2), some (.int (x3 + 1))] [] (nh_wa σ 22 x3.toNatClampNeg (if nh_hs x1 x3 then x2 else σ.2.1 18 x3.toNatClampNeg)) Q))) : nh_E kX8_standsWith 2 [some (.ref 0), some (.int x1), some (.int x2), some (.int x3)] [] σ Q := by
  refine nE_iload_n dX8_standsWith_2 rfl rfl ?_
  refine nE_aload_n dX8_standsWith_3 rfl rfl ?_
  obtain ⟨g1, h⟩ := h
  refine nE_getR fl_X8_73 sC_0 rfl dX8_standsWith_4 ?_
  refine nE_getI fl_X8_130 (sP_0 g1) rfl dX8_standsWith_7 ?_
  refine nE_icmp_ge (tgt := 49) dX8_standsWith_10 (by decide) ⟨fun c2 => ?_, fun c2 => ?_⟩
  · have h := h.1 c2
    refine nE_aload_n dX8_standsWith_49 rfl rfl ?_
    refine nE_getC fl_X8_43 sC_0 rfl dX8_standsWith_50 ?_
    refine nE_aload_n dX8_standsWith_53 rfl rfl ?_
    refine nE_getR fl_X8_73 sC_0 rfl dX8_standsWith_54 ?_
    refine nE_aload_n dX8_standsWith_57 rfl rfl ?_
    refine nE_getR fl_X8_73 sC_0 rfl dX8_standsWith_58 ?_
    refine nE_callV (As := []) yf_X3_allParts ⟨by decide, by decide⟩ rfl rfl (sP_0 g1) rfl vl_X8_227 dX8_standsWith_61 rfl rfl (Nat.le_of_ble_eq_true rfl) (Nat.le_of_ble_eq_true rfl) (p_X3_allParts g1 ?_)
    refine nE_callV (As := [.ref (σ.2.2 0 11), .int ((1 <<< ((σ.1 (σ.2.2 0 11) 1) &&& 31)) - 1)]) yf_X5_run ⟨by decide, by decide⟩ rfl rfl (sG_0 isG_21) rfl vl_X8_230 dX8_standsWith_64 rfl rfl (Nat.le_of_ble_eq_true rfl) (Nat.le_of_ble_eq_true rfl) (nE_mono (fun z5 τ3 h => ?_) h)
    obtain ⟨r4, rfl, h⟩ := h
    refine nE_callS (As := [.int r4]) yf_X8_counted ⟨by decide, by decide⟩ rfl sl_X8_233 dX8_standsWith_67 rfl rfl (Nat.le_of_ble_eq_true rfl) (Nat.le_of_ble_eq_true rfl) (p_X8_counted _ ?_)
    exact nE_iret dX8_standsWith_70 rfl h
  · have h := h.2 c2
    refine nE_aload_n dX8_standsWith_13 rfl rfl ?_
    refine nE_getC fl_X8_43 sC_0 rfl dX8_standsWith_14 ?_
    refine nE_getC fl_X8_329 (sG_0 isG_21) rfl dX8_standsWith_17 ?_
    refine nE_iload_n dX8_standsWith_20 rfl rfl ?_
    refine nE_iload_n dX8_standsWith_21 rfl rfl ?_
    refine nE_iload_n dX8_standsWith_22 rfl rfl ?_
    refine nE_callS (As := [.int x1, .int x3]) yf_X8_has ⟨by decide, by decide⟩ rfl sl_X8_212 dX8_standsWith_23 rfl rfl (Nat.le_of_ble_eq_true rfl) (Nat.le_of_ble_eq_true rfl) (p_X8_has _ _ ?_)
    obtain ⟨u7, h⟩ := h
    have j9 : nh_E kX8_standsWith 42 [some (.ref 0), some (.int x1), some (.int x2), some (.int x3)] [.int (if nh_hs x1 x3 then x2 else σ.2.1 18 x3.toNatClampNeg), .int x3, .ref 22] σ Q := by
      obtain ⟨g8, h⟩ := h
      refine nG_iast (j := x3.toNatClampNeg) (sG_1 isG_21) rfl dX8_standsWith_42 ⟨g8, ?_⟩
      refine nE_iinc (v := x3 + 1) dX8_standsWith_43 rfl rfl (by decide) rfl ?_
      refine nE_goto (tgt := 2) dX8_standsWith_46 (by decide) ?_
      exact h
    have u10 := u7
    refine nE_ifb_eq (tgt := 33) dX8_standsWith_26 (by decide) ⟨fun c11 => ?_, fun c11 => ?_⟩
    · skip
      have f12 : (nh_hs x1 x3) = False := eq_false c11
      have g6 := (u10 c11)
      refine nE_aload_n dX8_standsWith_33 rfl rfl ?_
      refine nE_getC fl_X8_39 sC_0 rfl dX8_standsWith_34 ?_
      refine nE_getC fl_X8_329 (sG_0 isG_17) rfl dX8_standsWith_37 ?_
      refine nE_iload_n dX8_standsWith_40 rfl rfl ?_
      refine nG_iald (j := x3.toNatClampNeg) (sG_1 isG_17) rfl dX8_standsWith_41 ⟨g6, ?_⟩
      exact nh_topi (show ((if nh_hs x1 x3 then x2 else σ.2.1 18 x3.toNatClampNeg) : Int32) = σ.2.1 18 x3.toNatClampNeg from by simp only [if_true, if_false, not_true_eq_false, not_false_eq_true, true_and, and_true, false_and, and_false, true_or, or_true, false_or, or_false, if_pos, if_neg, ite_true, ite_false, f12]) j9
    · skip
      have f13 : (nh_hs x1 x3) = True := eq_true c11
      refine nE_iload_n dX8_standsWith_29 rfl rfl ?_
      refine nE_goto (tgt := 42) dX8_standsWith_30 (by decide) ?_
      exact nh_topi (show ((if nh_hs x1 x3 then x2 else σ.2.1 18 x3.toNatClampNeg) : Int32) = x2 from by simp only [if_true, if_false, not_true_eq_false, not_false_eq_true, true_and, and_true, false_and, and_false, true_or, or_true, false_or, or_false, if_pos, if_neg, ite_true, ite_false, f13]) j9
set_option maxRecDepth 20000 in
theorem sg_X8_countLogged_0  {σ : nh_S} {Q : Option Value → nh_S → Prop} (h : nh_E kX8_countLogged 4 [some (.ref 0), some (.int 0), some (.int 0)] [] σ Q) : nh_E kX8_countLogged 0 [some (.ref 0), none, none] [] σ Q := by
  refine nE_iconst (v := 0) dX8_countLogged_0 (by decide) ?_
  refine nE_istore_n dX8_countLogged_1 rfl rfl (by decide) ?_
  refine nE_iconst (v := 0) dX8_countLogged_2 (by decide) ?_
  refine nE_istore_n dX8_countLogged_3 rfl rfl (by decide) ?_
  exact h
set_option maxRecDepth 20000 in
theorem sg_X8_countLogged_4 (x1 : Int32) (x2 : Int32) {σ : nh_S} {Q : Option Value → nh_S → Prop} (h : (isP (σ.2.2 0 11)) ∧ (σ.1 (σ.2.2 0 11) 1 ≤ x2 → (Q (some (.int x1)) σ)) ∧ (¬ (σ.1 (σ.2.2 0 11) 1 ≤ x2) → ((vp_in x2 12) ∧ (σ.2.1 31 x2.toNatClampNeg = (-1) → (nh_E kX8_countLogged 4 [some (.ref 0), some (.int x1), some (.int (x2 + 1))] [] σ Q)) ∧ (¬ (σ.2.1 31 x2.toNatClampNeg = (-1)) → (nh_E kX8_countLogged 4 [some (.ref 0), some (.int (x1 + 1)), some (.int (x2 + 1))] [] σ Q))))) : nh_E kX8_countLogged 4 [some (.ref 0), some (.int x1), some (.int x2)] [] σ Q := by
  refine nE_iload_n dX8_countLogged_4 rfl rfl ?_
  refine nE_aload_n dX8_countLogged_5 rfl rfl ?_
  obtain ⟨g1, h⟩ := h
  refine nE_getR fl_X8_73 sC_0 rfl dX8_countLogged_6 ?_
  refine nE_getI fl_X8_130 (sP_0 g1) rfl dX8_countLogged_9 ?_
  refine nE_icmp_ge (tgt := 34) dX8_countLogged_12 (by decide) ⟨fun c2 => ?_, fun c2 => ?_⟩
  · have h := h.1 c2
    refine nE_iload_n dX8_countLogged_34 rfl rfl ?_
    exact nE_iret dX8_countLogged_35 rfl h
  · have h := h.2 c2
    refine nE_aload_n dX8_countLogged_15 rfl rfl ?_
    refine nE_getC fl_X8_64 sC_0 rfl dX8_countLogged_16 ?_
    refine nE_iload_n dX8_countLogged_19 rfl rfl ?_
    obtain ⟨g3, h⟩ := h
    refine nG_iald (j := x2.toNatClampNeg) sC_31 rfl dX8_countLogged_20 ⟨g3, ?_⟩
    refine nE_iconst (v := (-1)) dX8_countLogged_21 (by decide) ?_
    refine nE_icmp_eq (tgt := 28) dX8_countLogged_22 (by decide) ⟨fun c4 => ?_, fun c4 => ?_⟩
    · have h := h.1 c4
      refine nE_iinc (v := x2 + 1) dX8_countLogged_28 rfl rfl (by decide) rfl ?_
      refine nE_goto (tgt := 4) dX8_countLogged_31 (by decide) ?_
      exact h
    · have h := h.2 c4
      refine nE_iinc (v := x1 + 1) dX8_countLogged_25 rfl rfl (by decide) rfl ?_
      refine nE_iinc (v := x2 + 1) dX8_countLogged_28 rfl rfl (by decide) rfl ?_
      refine nE_goto (tgt := 4) dX8_countLogged_31 (by decide) ?_
      exact h
set_option maxRecDepth 20000 in
theorem sg_X8_lateBy_0 (x1 : Int32) (x2 : Int32) {σ : nh_S} {Q : Option Value → nh_S → Prop} (h : (vp_in x1 12) ∧ (σ.2.1 31 x1.toNatClampNeg = (-1) → (Q (some (.int 0)) σ)) ∧ (¬ (σ.2.1 31 x1.toNatClampNeg = (-1)) → ((¬ (x2 = (-1)) → (Q (some (.int (if 0 < ((σ.2.1 31 x1.toNatClampNeg) - x2) then ((σ.2.1 31 x1.toNatClampNeg) - x2) else 0))) σ)) ∧ (x2 = (-1) → (Q (some (.int 0)) σ))))) : nh_E kX8_lateBy 0 [some (.ref 0), some (.int x1), some (.int x2)] [] σ Q := by
  refine nE_aload_n dX8_lateBy_0 rfl rfl ?_
  refine nE_getC fl_X8_64 sC_0 rfl dX8_lateBy_1 ?_
  refine nE_iload_n dX8_lateBy_4 rfl rfl ?_
  obtain ⟨g1, h⟩ := h
  refine nG_iald (j := x1.toNatClampNeg) sC_31 rfl dX8_lateBy_5 ⟨g1, ?_⟩
  refine nE_iconst (v := (-1)) dX8_lateBy_6 (by decide) ?_
  refine nE_icmp_eq (tgt := 15) dX8_lateBy_7 (by decide) ⟨fun c2 => ?_, fun c2 => ?_⟩
  · have h := h.1 c2
    refine nE_iconst (v := 0) dX8_lateBy_15 (by decide) ?_
    exact nE_iret dX8_lateBy_16 rfl h
  · have h := h.2 c2
    refine nE_iload_n dX8_lateBy_10 rfl rfl ?_
    refine nE_iconst (v := (-1)) dX8_lateBy_11 (by decide) ?_
    refine nE_icmp_ne (tgt := 17) dX8_lateBy_12 (by decide) ⟨fun c3 => ?_, fun c3 => ?_⟩
    · have h := h.1 c3
      refine nE_iconst (v := 0) dX8_lateBy_17 (by decide) ?_
      refine nE_aload_n dX8_lateBy_18 rfl rfl ?_
      refine nE_getC fl_X8_64 sC_0 rfl dX8_lateBy_19 ?_
      refine nE_iload_n dX8_lateBy_22 rfl rfl ?_
      refine nG_iald (j := x1.toNatClampNeg) sC_31 rfl dX8_lateBy_23 ⟨g1, ?_⟩
      refine nE_iload_n dX8_lateBy_24 rfl rfl ?_
      refine nE_isub dX8_lateBy_25 ?_
      refine nE_mmax mm_X8_236 ⟨by decide, Nat.le_of_ble_eq_true rfl⟩ dX8_lateBy_26 ?_
      exact nE_iret dX8_lateBy_29 rfl h
    · have h := h.2 c3
      refine nE_iconst (v := 0) dX8_lateBy_15 (by decide) ?_
      exact nE_iret dX8_lateBy_16 rfl h
set_option maxRecDepth 20000 in
theorem sg_X8_findLatest_0  {σ : nh_S} {Q : Option Value → nh_S → Prop} (h : nh_E kX8_findLatest 6 [some (.ref 0), some (.int (-1)), some (.int 0), some (.int 0), none] [] σ Q) : nh_E kX8_findLatest 0 [some (.ref 0), none, none, none, none] [] σ Q := by
  refine nE_iconst (v := (-1)) dX8_findLatest_0 (by decide) ?_
  refine nE_istore_n dX8_findLatest_1 rfl rfl (by decide) ?_
  refine nE_iconst (v := 0) dX8_findLatest_2 (by decide) ?_
  refine nE_istore_n dX8_findLatest_3 rfl rfl (by decide) ?_
  refine nE_iconst (v := 0) dX8_findLatest_4 (by decide) ?_
  refine nE_istore_n dX8_findLatest_5 rfl rfl (by decide) ?_
  exact h
set_option maxRecDepth 20000 in
theorem sg_X8_findLatest_6 (x1 : Int32) (x2 : Int32) (x3 : Int32) {σ : nh_S} {Q : Option Value → nh_S → Prop} (h : (isP (σ.2.2 0 11)) ∧ (σ.1 (σ.2.2 0 11) 1 ≤ x3 → (Q (some (.int x1)) σ)) ∧ (¬ (σ.1 (σ.2.2 0 11) 1 ≤ x3) → ((vp_in x3 12) ∧ nh_E kX8_lateBy 0 [some (.ref 0), some (.int x3), some (.int (σ.2.1 18 x3.toNatClampNeg))] [] σ (nh_qi fun r5 τ4 => (r5 ≤ x2 → (nh_E kX8_findLatest 6 [some (.ref 0), some (.int x1), some (.int x2), some (.int (x3 + 1)), none] [] τ4 Q)) ∧ (¬ (r5 ≤ x2) → (nh_E kX8_findLatest 6 [some (.ref 0), some (.int x3), some (.int r5), some (.int (x3 + 1)), none] [] τ4 Q)))))) : nh_E kX8_findLatest 6 [some (.ref 0), some (.int x1), some (.int x2), some (.int x3), none] [] σ Q := by
  refine nE_iload_n dX8_findLatest_6 rfl rfl ?_
  refine nE_aload_n dX8_findLatest_7 rfl rfl ?_
  obtain ⟨g1, h⟩ := h
  refine nE_getR fl_X8_73 sC_0 rfl dX8_findLatest_8 ?_
  refine nE_getI fl_X8_130 (sP_0 g1) rfl dX8_findLatest_11 ?_
  refine nE_icmp_ge (tgt := 50) dX8_findLatest_14 (by decide) ⟨fun c2 => ?_, fun c2 => ?_⟩
  · have h := h.1 c2
    refine nE_iload_n dX8_findLatest_50 rfl rfl ?_
    exact nE_iret dX8_findLatest_51 rfl h
  · have h := h.2 c2
    refine nE_aload_n dX8_findLatest_17 rfl rfl ?_
    refine nE_iload_n dX8_findLatest_18 rfl rfl ?_
    refine nE_aload_n dX8_findLatest_19 rfl rfl ?_
    refine nE_getC fl_X8_39 sC_0 rfl dX8_findLatest_20 ?_
    refine nE_getC fl_X8_329 (sG_0 isG_17) rfl dX8_findLatest_23 ?_
    refine nE_iload_n dX8_findLatest_26 rfl rfl ?_
    obtain ⟨g3, h⟩ := h
    refine nG_iald (j := x3.toNatClampNeg) (sG_1 isG_17) rfl dX8_findLatest_27 ⟨g3, ?_⟩
    refine nE_callV (As := [.int x3, .int (σ.2.1 18 x3.toNatClampNeg)]) yf_X8_lateBy ⟨by decide, by decide⟩ rfl rfl sC_0 rfl vl_X8_306 dX8_findLatest_28 rfl rfl (Nat.le_of_ble_eq_true rfl) (Nat.le_of_ble_eq_true rfl) (nE_mono (fun z6 τ4 h => ?_) h)
    obtain ⟨r5, rfl, h⟩ := h
    refine nE_istore dX8_findLatest_31 rfl (by decide) ?_
    refine nE_iload dX8_findLatest_33 rfl ?_
    refine nE_iload_n dX8_findLatest_35 rfl rfl ?_
    refine nE_icmp_le (tgt := 44) dX8_findLatest_36 (by decide) ⟨fun c7 => ?_, fun c7 => ?_⟩
    · have h := h.1 c7
      refine nE_iinc (v := x3 + 1) dX8_findLatest_44 rfl rfl (by decide) rfl ?_
      refine nE_goto (tgt := 6) dX8_findLatest_47 (by decide) ?_
      refine nE_weak 4 ?_
      exact h
    · have h := h.2 c7
      refine nE_iload_n dX8_findLatest_39 rfl rfl ?_
      refine nE_istore_n dX8_findLatest_40 rfl rfl (by decide) ?_
      refine nE_iload dX8_findLatest_41 rfl ?_
      refine nE_istore_n dX8_findLatest_43 rfl rfl (by decide) ?_
      refine nE_iinc (v := x3 + 1) dX8_findLatest_44 rfl rfl (by decide) rfl ?_
      refine nE_goto (tgt := 6) dX8_findLatest_47 (by decide) ?_
      refine nE_weak 4 ?_
      exact h
set_option maxRecDepth 20000 in
theorem sg_X8_standsByLog_0  {σ : nh_S} {Q : Option Value → nh_S → Prop} (h : nh_E kX8_standsByLog 2 [some (.ref 0), some (.int 0)] [] σ Q) : nh_E kX8_standsByLog 0 [some (.ref 0), none] [] σ Q := by
  refine nE_iconst (v := 0) dX8_standsByLog_0 (by decide) ?_
  refine nE_istore_n dX8_standsByLog_1 rfl rfl (by decide) ?_
  exact h
set_option maxRecDepth 20000 in
theorem sg_X8_standsByLog_2 (x1 : Int32) {σ : nh_S} {Q : Option Value → nh_S → Prop} (h : (isP (σ.2.2 0 11)) ∧ (σ.1 (σ.2.2 0 11) 1 ≤ x1 → (nh_E kX5_run 0 [some (.ref 17), some (.ref (σ.2.2 0 11)), some (.int ((1 <<< ((σ.1 (σ.2.2 0 11) 1) &&& 31)) - 1)), none] [] σ (nh_qi fun r4 τ3 => Q (some (.int r4)) τ3))) ∧ (¬ (σ.1 (σ.2.2 0 11) 1 ≤ x1) → ((vp_in x1 12) ∧ (σ.2.1 31 x1.toNatClampNeg = (-1) → (nh_E kX8_standsByLog 2 [some (.ref 0), some (.int (x1 + 1))] [] σ Q)) ∧ (¬ (σ.2.1 31 x1.toNatClampNeg = (-1)) → (nh_E kX8_standsByLog 2 [some (.ref 0), some (.int (x1 + 1))] [] (nh_wa σ 18 x1.toNatClampNeg (σ.2.1 31 x1.toNatClampNeg)) Q))))) : nh_E kX8_standsByLog 2 [some (.ref 0), some (.int x1)] [] σ Q := by
  refine nE_iload_n dX8_standsByLog_2 rfl rfl ?_
  refine nE_aload_n dX8_standsByLog_3 rfl rfl ?_
  obtain ⟨g1, h⟩ := h
  refine nE_getR fl_X8_73 sC_0 rfl dX8_standsByLog_4 ?_
  refine nE_getI fl_X8_130 (sP_0 g1) rfl dX8_standsByLog_7 ?_
  refine nE_icmp_ge (tgt := 44) dX8_standsByLog_10 (by decide) ⟨fun c2 => ?_, fun c2 => ?_⟩
  · have h := h.1 c2
    refine nE_aload_n dX8_standsByLog_44 rfl rfl ?_
    refine nE_getC fl_X8_39 sC_0 rfl dX8_standsByLog_45 ?_
    refine nE_aload_n dX8_standsByLog_48 rfl rfl ?_
    refine nE_getR fl_X8_73 sC_0 rfl dX8_standsByLog_49 ?_
    refine nE_aload_n dX8_standsByLog_52 rfl rfl ?_
    refine nE_getR fl_X8_73 sC_0 rfl dX8_standsByLog_53 ?_
    refine nE_callV (As := []) yf_X3_allParts ⟨by decide, by decide⟩ rfl rfl (sP_0 g1) rfl vl_X8_227 dX8_standsByLog_56 rfl rfl (Nat.le_of_ble_eq_true rfl) (Nat.le_of_ble_eq_true rfl) (p_X3_allParts g1 ?_)
    refine nE_callV (As := [.ref (σ.2.2 0 11), .int ((1 <<< ((σ.1 (σ.2.2 0 11) 1) &&& 31)) - 1)]) yf_X5_run ⟨by decide, by decide⟩ rfl rfl (sG_0 isG_17) rfl vl_X8_230 dX8_standsByLog_59 rfl rfl (Nat.le_of_ble_eq_true rfl) (Nat.le_of_ble_eq_true rfl) (nE_mono (fun z5 τ3 h => ?_) h)
    obtain ⟨r4, rfl, h⟩ := h
    exact nE_iret dX8_standsByLog_62 rfl h
  · have h := h.2 c2
    refine nE_aload_n dX8_standsByLog_13 rfl rfl ?_
    refine nE_getC fl_X8_64 sC_0 rfl dX8_standsByLog_14 ?_
    refine nE_iload_n dX8_standsByLog_17 rfl rfl ?_
    obtain ⟨g6, h⟩ := h
    refine nG_iald (j := x1.toNatClampNeg) sC_31 rfl dX8_standsByLog_18 ⟨g6, ?_⟩
    refine nE_iconst (v := (-1)) dX8_standsByLog_19 (by decide) ?_
    refine nE_icmp_eq (tgt := 38) dX8_standsByLog_20 (by decide) ⟨fun c7 => ?_, fun c7 => ?_⟩
    · have h := h.1 c7
      refine nE_iinc (v := x1 + 1) dX8_standsByLog_38 rfl rfl (by decide) rfl ?_
      refine nE_goto (tgt := 2) dX8_standsByLog_41 (by decide) ?_
      exact h
    · have h := h.2 c7
      refine nE_aload_n dX8_standsByLog_23 rfl rfl ?_
      refine nE_getC fl_X8_39 sC_0 rfl dX8_standsByLog_24 ?_
      refine nE_getC fl_X8_329 (sG_0 isG_17) rfl dX8_standsByLog_27 ?_
      refine nE_iload_n dX8_standsByLog_30 rfl rfl ?_
      refine nE_aload_n dX8_standsByLog_31 rfl rfl ?_
      refine nE_getC fl_X8_64 sC_0 rfl dX8_standsByLog_32 ?_
      refine nE_iload_n dX8_standsByLog_35 rfl rfl ?_
      refine nG_iald (j := x1.toNatClampNeg) sC_31 rfl dX8_standsByLog_36 ⟨g6, ?_⟩
      refine nG_iast (j := x1.toNatClampNeg) (sG_1 isG_17) rfl dX8_standsByLog_37 ⟨g6, ?_⟩
      refine nE_iinc (v := x1 + 1) dX8_standsByLog_38 rfl rfl (by decide) rfl ?_
      refine nE_goto (tgt := 2) dX8_standsByLog_41 (by decide) ?_
      exact h
set_option maxRecDepth 20000 in
theorem sg_J6_bitCount_0f7a4_0 (x0 : Int32) {σ : nh_S} {Q : Option Value → nh_S → Prop} (h : Q (some (.int ((((((((x0 - (((x0.toUInt32 >>> ((1 : Int32).toUInt32 &&& Int32.toUInt32 31)).toInt32) &&& 1431655765)) &&& 858993459) + ((((x0 - (((x0.toUInt32 >>> ((1 : Int32).toUInt32 &&& Int32.toUInt32 31)).toInt32) &&& 1431655765)).toUInt32 >>> ((2 : Int32).toUInt32 &&& Int32.toUInt32 31)).toInt32) &&& 858993459)) + (((((x0 - (((x0.toUInt32 >>> ((1 : Int32).toUInt32 &&& Int32.toUInt32 31)).toInt32) &&& 1431655765)) &&& 858993459) + ((((x0 - (((x0.toUInt32 >>> ((1 : Int32).toUInt32 &&& Int32.toUInt32 31)).toInt32) &&& 1431655765)).toUInt32 >>> ((2 : Int32).toUInt32 &&& Int32.toUInt32 31)).toInt32) &&& 858993459)).toUInt32 >>> ((4 : Int32).toUInt32 &&& Int32.toUInt32 31)).toInt32)) &&& 252645135) + (((((((x0 - (((x0.toUInt32 >>> ((1 : Int32).toUInt32 &&& Int32.toUInt32 31)).toInt32) &&& 1431655765)) &&& 858993459) + ((((x0 - (((x0.toUInt32 >>> ((1 : Int32).toUInt32 &&& Int32.toUInt32 31)).toInt32) &&& 1431655765)).toUInt32 >>> ((2 : Int32).toUInt32 &&& Int32.toUInt32 31)).toInt32) &&& 858993459)) + (((((x0 - (((x0.toUInt32 >>> ((1 : Int32).toUInt32 &&& Int32.toUInt32 31)).toInt32) &&& 1431655765)) &&& 858993459) + ((((x0 - (((x0.toUInt32 >>> ((1 : Int32).toUInt32 &&& Int32.toUInt32 31)).toInt32) &&& 1431655765)).toUInt32 >>> ((2 : Int32).toUInt32 &&& Int32.toUInt32 31)).toInt32) &&& 858993459)).toUInt32 >>> ((4 : Int32).toUInt32 &&& Int32.toUInt32 31)).toInt32)) &&& 252645135).toUInt32 >>> ((8 : Int32).toUInt32 &&& Int32.toUInt32 31)).toInt32)) + ((((((((x0 - (((x0.toUInt32 >>> ((1 : Int32).toUInt32 &&& Int32.toUInt32 31)).toInt32) &&& 1431655765)) &&& 858993459) + ((((x0 - (((x0.toUInt32 >>> ((1 : Int32).toUInt32 &&& Int32.toUInt32 31)).toInt32) &&& 1431655765)).toUInt32 >>> ((2 : Int32).toUInt32 &&& Int32.toUInt32 31)).toInt32) &&& 858993459)) + (((((x0 - (((x0.toUInt32 >>> ((1 : Int32).toUInt32 &&& Int32.toUInt32 31)).toInt32) &&& 1431655765)) &&& 858993459) + ((((x0 - (((x0.toUInt32 >>> ((1 : Int32).toUInt32 &&& Int32.toUInt32 31)).toInt32) &&& 1431655765)).toUInt32 >>> ((2 : Int32).toUInt32 &&& Int32.toUInt32 31)).toInt32) &&& 858993459)).toUInt32 >>> ((4 : Int32).toUInt32 &&& Int32.toUInt32 31)).toInt32)) &&& 252645135) + (((((((x0 - (((x0.toUInt32 >>> ((1 : Int32).toUInt32 &&& Int32.toUInt32 31)).toInt32) &&& 1431655765)) &&& 858993459) + ((((x0 - (((x0.toUInt32 >>> ((1 : Int32).toUInt32 &&& Int32.toUInt32 31)).toInt32) &&& 1431655765)).toUInt32 >>> ((2 : Int32).toUInt32 &&& Int32.toUInt32 31)).toInt32) &&& 858993459)) + (((((x0 - (((x0.toUInt32 >>> ((1 : Int32).toUInt32 &&& Int32.toUInt32 31)).toInt32) &&& 1431655765)) &&& 858993459) + ((((x0 - (((x0.toUInt32 >>> ((1 : Int32).toUInt32 &&& Int32.toUInt32 31)).toInt32) &&& 1431655765)).toUInt32 >>> ((2 : Int32).toUInt32 &&& Int32.toUInt32 31)).toInt32) &&& 858993459)).toUInt32 >>> ((4 : Int32).toUInt32 &&& Int32.toUInt32 31)).toInt32)) &&& 252645135).toUInt32 >>> ((8 : Int32).toUInt32 &&& Int32.toUInt32 31)).toInt32)).toUInt32 >>> ((16 : Int32).toUInt32 &&& Int32.toUInt32 31)).toInt32)) &&& 63))) σ) : nh_E kJ6_bitCount_0f7a4 0 [some (.int x0)] [] σ Q := by
  refine nE_iload_n dJ6_bitCount_0f7a4_0 rfl rfl ?_
  refine nE_iload_n dJ6_bitCount_0f7a4_1 rfl rfl ?_
  refine nE_iconst (v := 1) dJ6_bitCount_0f7a4_2 (by decide) ?_
  refine nE_iushr dJ6_bitCount_0f7a4_3 ?_
  refine nE_ldcw kc_J6_265 dJ6_bitCount_0f7a4_4 ?_
  refine nE_iand dJ6_bitCount_0f7a4_7 ?_
  refine nE_isub dJ6_bitCount_0f7a4_8 ?_
  refine nE_istore_n dJ6_bitCount_0f7a4_9 rfl rfl (by decide) ?_
  refine nE_iload_n dJ6_bitCount_0f7a4_10 rfl rfl ?_
  refine nE_ldcw kc_J6_266 dJ6_bitCount_0f7a4_11 ?_
  refine nE_iand dJ6_bitCount_0f7a4_14 ?_
  refine nE_iload_n dJ6_bitCount_0f7a4_15 rfl rfl ?_
  refine nE_iconst (v := 2) dJ6_bitCount_0f7a4_16 (by decide) ?_
  refine nE_iushr dJ6_bitCount_0f7a4_17 ?_
  refine nE_ldcw kc_J6_266 dJ6_bitCount_0f7a4_18 ?_
  refine nE_iand dJ6_bitCount_0f7a4_21 ?_
  refine nE_iadd dJ6_bitCount_0f7a4_22 ?_
  refine nE_istore_n dJ6_bitCount_0f7a4_23 rfl rfl (by decide) ?_
  refine nE_iload_n dJ6_bitCount_0f7a4_24 rfl rfl ?_
  refine nE_iload_n dJ6_bitCount_0f7a4_25 rfl rfl ?_
  refine nE_iconst (v := 4) dJ6_bitCount_0f7a4_26 (by decide) ?_
  refine nE_iushr dJ6_bitCount_0f7a4_27 ?_
  refine nE_iadd dJ6_bitCount_0f7a4_28 ?_
  refine nE_ldcw kc_J6_267 dJ6_bitCount_0f7a4_29 ?_
  refine nE_iand dJ6_bitCount_0f7a4_32 ?_
  refine nE_istore_n dJ6_bitCount_0f7a4_33 rfl rfl (by decide) ?_
  refine nE_iload_n dJ6_bitCount_0f7a4_34 rfl rfl ?_
  refine nE_iload_n dJ6_bitCount_0f7a4_35 rfl rfl ?_
  refine nE_bipush (v := 8) dJ6_bitCount_0f7a4_36 (by decide) ?_
  refine nE_iushr dJ6_bitCount_0f7a4_38 ?_
  refine nE_iadd dJ6_bitCount_0f7a4_39 ?_
  refine nE_istore_n dJ6_bitCount_0f7a4_40 rfl rfl (by decide) ?_
  refine nE_iload_n dJ6_bitCount_0f7a4_41 rfl rfl ?_
  refine nE_iload_n dJ6_bitCount_0f7a4_42 rfl rfl ?_
  refine nE_bipush (v := 16) dJ6_bitCount_0f7a4_43 (by decide) ?_
  refine nE_iushr dJ6_bitCount_0f7a4_45 ?_
  refine nE_iadd dJ6_bitCount_0f7a4_46 ?_
  refine nE_istore_n dJ6_bitCount_0f7a4_47 rfl rfl (by decide) ?_
  refine nE_iload_n dJ6_bitCount_0f7a4_48 rfl rfl ?_
  refine nE_bipush (v := 63) dJ6_bitCount_0f7a4_49 (by decide) ?_
  refine nE_iand dJ6_bitCount_0f7a4_51 ?_
  exact nE_iret dJ6_bitCount_0f7a4_52 rfl h
set_option maxRecDepth 20000 in
theorem sg_J7_fill_53178_0 {a0 n0 : Nat} (ha0 : shC[a0]? = some (.inl (.int, n0, none))) (x1 : Int32) {σ : nh_S} {Q : Option Value → nh_S → Prop} (h : nh_E kJ7_fill_53178 5 [some (.ref a0), some (.int x1), some (.int 0), some (.int (Int32.ofNat n0))] [] σ Q) : nh_E kJ7_fill_53178 0 [some (.ref a0), some (.int x1), none, none] [] σ Q := by
  refine nE_iconst (v := 0) dJ7_fill_53178_0 (by decide) ?_
  refine nE_istore_n dJ7_fill_53178_1 rfl rfl (by decide) ?_
  refine nE_aload_n dJ7_fill_53178_2 rfl rfl ?_
  refine nE_alen 0 (fun _ => rfl) ha0 dJ7_fill_53178_3 ?_
  refine nE_istore_n dJ7_fill_53178_4 rfl rfl (by decide) ?_
  exact h
set_option maxRecDepth 20000 in
theorem sg_J7_fill_53178_5 {a0 n0 : Nat} (ha0 : shC[a0]? = some (.inl (.int, n0, none))) (x1 : Int32) (x2 : Int32) (x3 : Int32) {σ : nh_S} {Q : Option Value → nh_S → Prop} (h : (x3 ≤ x2 → (Q none σ)) ∧ (¬ (x3 ≤ x2) → ((vp_in x2 n0) ∧ nh_E kJ7_fill_53178 5 [some (.ref a0), some (.int x1), some (.int (x2 + 1)), some (.int x3)] [] (nh_wa σ a0 x2.toNatClampNeg x1) Q))) : nh_E kJ7_fill_53178 5 [some (.ref a0), some (.int x1), some (.int x2), some (.int x3)] [] σ Q := by
  refine nE_iload_n dJ7_fill_53178_5 rfl rfl ?_
  refine nE_iload_n dJ7_fill_53178_6 rfl rfl ?_
  refine nE_icmp_ge (tgt := 20) dJ7_fill_53178_7 (by decide) ⟨fun c1 => ?_, fun c1 => ?_⟩
  · have h := h.1 c1
    exact nE_vret dJ7_fill_53178_20 rfl h
  · have h := h.2 c1
    refine nE_aload_n dJ7_fill_53178_10 rfl rfl ?_
    refine nE_iload_n dJ7_fill_53178_11 rfl rfl ?_
    refine nE_iload_n dJ7_fill_53178_12 rfl rfl ?_
    obtain ⟨g2, h⟩ := h
    refine nG_iast (j := x2.toNatClampNeg) ha0 rfl dJ7_fill_53178_13 ⟨g2, ?_⟩
    refine nE_iinc (v := x2 + 1) dJ7_fill_53178_14 rfl rfl (by decide) rfl ?_
    refine nE_goto (tgt := 5) dJ7_fill_53178_17 (by decide) ?_
    exact h
