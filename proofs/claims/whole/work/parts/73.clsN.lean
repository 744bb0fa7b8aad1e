/-! THE CLASS: the JDK's length, charAt over the five words -/
theorem j_checkIndex3 {v : Value} {i n : Int32} (h0 : ¬ i < 0) (h1 : i < n) {σ : nh_S} {Q : Option Value → nh_S → Prop} (hQ : Q (some (.int i)) σ) : nh_E kJ3_checkIndex_8e157 0 [some (.int i), some (.int n), some v] [] σ Q := by
  refine nE_iload_n dJ3_checkIndex_8e157_0 rfl rfl ?_
  refine nE_if_lt (tgt := 9) dJ3_checkIndex_8e157_1 (by decide) ⟨fun c => absurd c h0, fun _ => ?_⟩
  refine nE_iload_n dJ3_checkIndex_8e157_4 rfl rfl ?_
  refine nE_iload_n dJ3_checkIndex_8e157_5 rfl rfl ?_
  refine nE_icmp_lt (tgt := 16) dJ3_checkIndex_8e157_6 (by decide) ⟨fun _ => ?_, fun c => absurd h1 c⟩
  refine nE_iload_n dJ3_checkIndex_8e157_16 rfl rfl ?_
  exact nE_iret dJ3_checkIndex_8e157_17 rfl hQ
theorem j_checkIndex2 {i n : Int32} (h0 : ¬ i < 0) (h1 : i < n) {σ : nh_S} {Q : Option Value → nh_S → Prop} (hQ : Q none σ) : nh_E kJ0_checkIndex_df160 0 [some (.int i), some (.int n)] [] σ Q := by
  refine nE_iload_n dJ0_checkIndex_df160_0 rfl rfl ?_
  refine nE_iload_n dJ0_checkIndex_df160_1 rfl rfl ?_
  refine nE_getsF js_1053 dJ0_checkIndex_df160_2 (fun v hv => ?_)
  rcases hv with rfl | rfl
  · refine nE_callS (As := [.int i, .int n, .null]) yf_J3_checkIndex_8e157 ⟨by decide, by decide⟩ rfl sl_J0_1059 dJ0_checkIndex_df160_5 rfl rfl (Nat.le_of_ble_eq_true rfl) (Nat.le_of_ble_eq_true rfl) (j_checkIndex3 h0 h1 ?_)
    refine nE_pop dJ0_checkIndex_df160_8 rfl ?_
    exact nE_vret dJ0_checkIndex_df160_9 rfl hQ
  · refine nE_callS (As := [.int i, .int n, .ref 920]) yf_J3_checkIndex_8e157 ⟨by decide, by decide⟩ rfl sl_J0_1059 dJ0_checkIndex_df160_5 rfl rfl (Nat.le_of_ble_eq_true rfl) (Nat.le_of_ble_eq_true rfl) (j_checkIndex3 h0 h1 ?_)
    refine nE_pop dJ0_checkIndex_df160_8 rfl ?_
    exact nE_vret dJ0_checkIndex_df160_9 rfl hQ
theorem j_len : ∀ t, t < 5 → nh_len.getD t 0 ≤ 5 ∧ 1 ≤ nh_len.getD t 0 := by decide +kernel
/-- the letters of word t -/
def wl (t : Nat) : List Nat := [[104, 111, 117, 115, 101], [119, 97, 121], [112, 97, 114, 116], [111, 110], [119, 97, 107, 101]].getD t []
theorem wl_len : ∀ t, t < 5 → nh_len.getD t 0 = (wl t).length := by decide +kernel
theorem wl_byt : ∀ t, t < 5 → ∀ k, k < 5 → k < (wl t).length → ((((nh_byt.getD t []).getD k 0) &&& 255).toUInt32 % 65536).toInt32 = nI ((wl t).getD k 0) := by decide +kernel
theorem j_charAt1 {t k : Nat} (ht : t < 5) (hk : k < (wl t).length) {σ : nh_S} {Q : Option Value → nh_S → Prop} (hQ : Q (some (.int (nI ((wl t).getD k 0)))) σ) : nh_E kJ1_charAt_3b067 0 [some (.ref (910 + t)), some (.int (nI k))] [] σ Q := by
  have hl := j_len t ht
  have hw := wl_len t ht
  have h5 : k < 5 := by omega
  refine nE_iload_n dJ1_charAt_3b067_0 rfl rfl ?_
  refine nE_aload_n dJ1_charAt_3b067_1 rfl rfl ?_
  refine nE_alenS ht dJ1_charAt_3b067_2 ?_
  refine nE_callS (As := [.int (nI k), .int (nI (nh_len.getD t 0))]) yf_J0_checkIndex_df160 ⟨by decide, by decide⟩ rfl sl_J1_9 dJ1_charAt_3b067_3 rfl rfl (Nat.le_of_ble_eq_true rfl) (Nat.le_of_ble_eq_true rfl) (j_checkIndex2 (nI_pos (by omega)) (nI_lt (by omega) (by omega)) ?_)
  refine nE_aload_n dJ1_charAt_3b067_6 rfl rfl ?_
  refine nE_iload_n dJ1_charAt_3b067_7 rfl rfl ?_
  refine nE_baldS ht (pk_in k _ (by omega) rfl (by omega)) dJ1_charAt_3b067_8 ?_
  refine nE_sipush (v := 255) dJ1_charAt_3b067_9 (by decide) ?_
  refine nE_iand dJ1_charAt_3b067_12 ?_
  refine nE_i2c dJ1_charAt_3b067_13 ?_
  refine nE_zret (ty := .char) dJ1_charAt_3b067_14 rfl (pk_nc _) ?_
  rw [pk_cl k rfl (by omega), wl_byt t ht k h5 hk]
  exact hQ
theorem j_isLatin1 {t : Nat} (ht : t < 5) {σ : nh_S} {Q : Option Value → nh_S → Prop} (hQ : Q (some (.int 1)) σ) : nh_E kJ0_isLatin1_aae02 0 [some (.ref (900 + t))] [] σ Q := by
  refine nE_getsC js_38 dJ0_isLatin1_aae02_0 ?_
  refine nE_if_eq (tgt := 17) dJ0_isLatin1_aae02_3 (by decide) ⟨fun c => absurd c (by decide), fun _ => ?_⟩
  refine nE_aload_n dJ0_isLatin1_aae02_6 rfl rfl ?_
  refine nE_getSc ht js_15 dJ0_isLatin1_aae02_7 ?_
  refine nE_if_ne (tgt := 17) dJ0_isLatin1_aae02_10 (by decide) ⟨fun c => absurd rfl c, fun _ => ?_⟩
  refine nE_iconst (v := 1) dJ0_isLatin1_aae02_13 (by decide) ?_
  refine nE_goto (tgt := 18) dJ0_isLatin1_aae02_14 (by decide) ?_
  exact nE_zret (ty := .boolean) dJ0_isLatin1_aae02_18 rfl (by decide) hQ
theorem j_coder {t : Nat} (ht : t < 5) {σ : nh_S} {Q : Option Value → nh_S → Prop} (hQ : Q (some (.int 0)) σ) : nh_E kJ0_coder_7d493 0 [some (.ref (900 + t))] [] σ Q := by
  refine nE_getsC js_38 dJ0_coder_7d493_0 ?_
  refine nE_if_eq (tgt := 13) dJ0_coder_7d493_3 (by decide) ⟨fun c => absurd c (by decide), fun _ => ?_⟩
  refine nE_aload_n dJ0_coder_7d493_6 rfl rfl ?_
  refine nE_getSc ht js_15 dJ0_coder_7d493_7 ?_
  refine nE_goto (tgt := 14) dJ0_coder_7d493_10 (by decide) ?_
  exact nE_zret (ty := .byte) dJ0_coder_7d493_14 rfl (by decide) hQ
theorem j_length {t : Nat} (ht : t < 5) {σ : nh_S} {Q : Option Value → nh_S → Prop} (hQ : Q (some (.int (nI (wl t).length))) σ) : nh_E kJ0_length_8abf5 0 [some (.ref (900 + t))] [] σ Q := by
  have hl := j_len t ht
  have hw := wl_len t ht
  refine nE_aload_n dJ0_length_8abf5_0 rfl rfl ?_
  refine nE_getSv ht js_9 dJ0_length_8abf5_1 ?_
  refine nE_alenS ht dJ0_length_8abf5_4 ?_
  refine nE_aload_n dJ0_length_8abf5_5 rfl rfl ?_
  refine nE_callT (As := []) ht yf_J0_coder_7d493 ⟨by decide, by decide⟩ rfl rfl vl_J0_335 dJ0_length_8abf5_6 rfl rfl (Nat.le_of_ble_eq_true rfl) (Nat.le_of_ble_eq_true rfl) (j_coder ht ?_)
  refine nE_ishr dJ0_length_8abf5_9 ?_
  refine nE_iret dJ0_length_8abf5_10 rfl ?_
  rw [show (Int32.ofNat (nh_len.getD t 0)) = nI (nh_len.getD t 0) from rfl, pk_shrN (by omega) _ 0 (by decide), hw]
  simpa using hQ
theorem j_charAt {t k : Nat} (ht : t < 5) (hk : k < (wl t).length) {σ : nh_S} {Q : Option Value → nh_S → Prop} (hQ : Q (some (.int (nI ((wl t).getD k 0)))) σ) : nh_E kJ0_charAt_5068e 0 [some (.ref (900 + t)), some (.int (nI k))] [] σ Q := by
  have hb : ∀ t, t < 5 → ∀ k, k < 5 → (wl t).getD k 0 < 65536 := by decide +kernel
  have hl := j_len t ht
  have hw := wl_len t ht
  refine nE_aload_n dJ0_charAt_5068e_0 rfl rfl ?_
  refine nE_callT (As := []) ht yf_J0_isLatin1_aae02 ⟨by decide, by decide⟩ rfl rfl vl_J0_492 dJ0_charAt_5068e_1 rfl rfl (Nat.le_of_ble_eq_true rfl) (Nat.le_of_ble_eq_true rfl) (j_isLatin1 ht ?_)
  refine nE_if_eq (tgt := 16) dJ0_charAt_5068e_4 (by decide) ⟨fun c => absurd c (by decide), fun _ => ?_⟩
  refine nE_aload_n dJ0_charAt_5068e_7 rfl rfl ?_
  refine nE_getSv ht js_9 dJ0_charAt_5068e_8 ?_
  refine nE_iload_n dJ0_charAt_5068e_11 rfl rfl ?_
  refine nE_callS (As := [.ref (910 + t), .int (nI k)]) yf_J1_charAt_3b067 ⟨by decide, by decide⟩ rfl sl_J0_495 dJ0_charAt_5068e_12 rfl rfl (Nat.le_of_ble_eq_true rfl) (Nat.le_of_ble_eq_true rfl) (j_charAt1 ht hk ?_)
  exact nE_zret (ty := .char) dJ0_charAt_5068e_15 rfl (pk_charN (hb t ht k (by omega))).1 hQ
/-! takesWord, its segments -/
set_option maxRecDepth 20000 in
theorem sg_X6_takesWord_0 (t : Nat) {σ : nh_S} {Q : Option Value → nh_S → Prop} (h : nh_E kX6_skipBlanks 0 [some (.ref 1)] [] σ (nh_qv fun τ => nh_E kX6_takesWord 9 [some (.ref 1), some (.ref (900 + t)), some (.int (τ.1 1 5)), none] [] τ Q)) : nh_E kX6_takesWord 0 [some (.ref 1), some (.ref (900 + t)), none, none] [] σ Q := by
  refine nE_aload_n dX6_takesWord_0 rfl rfl ?_
  refine nE_callV (As := []) yf_X6_skipBlanks ⟨by decide, by decide⟩ rfl rfl sC_1 rfl vl_X6_37 dX6_takesWord_1 rfl rfl (Nat.le_of_ble_eq_true rfl) (Nat.le_of_ble_eq_true rfl) (nE_mono (fun z3 τ1 h => ?_) h)
  obtain ⟨rfl, h⟩ := h
  refine nE_aload_n dX6_takesWord_4 rfl rfl ?_
  refine nE_getI fl_X6_24 sC_1 rfl dX6_takesWord_5 ?_
  exact nE_istore_n dX6_takesWord_8 rfl rfl (by decide) h
set_option maxRecDepth 20000 in
theorem sg_X6_takesWord_9 {t : Nat} (ht : t < 5) (x2 : Int32) {σ : nh_S} {Q : Option Value → nh_S → Prop}
    (h1 : ¬ (σ.1 1 1 ≤ x2) → vp_in x2 600)
    (h2 : ¬ (σ.1 1 1 ≤ x2) → (¬ (σ.2.1 2 x2.toNatClampNeg < 97) ∧ ¬ (122 < σ.2.1 2 x2.toNatClampNeg)) → nh_E kX6_takesWord 9 [some (.ref 1), some (.ref (900 + t)), some (.int (x2 + 1)), none] [] σ Q)
    (h3 : (σ.1 1 1 ≤ x2 ∨ ¬ (¬ (σ.2.1 2 x2.toNatClampNeg < 97) ∧ ¬ (122 < σ.2.1 2 x2.toNatClampNeg))) → (σ.1 1 3 = 0 → (x2 - σ.1 1 5 = nI (wl t).length → nh_E kX6_takesWord 59 [some (.ref 1), some (.ref (900 + t)), some (.int x2), some (.int 0)] [] σ Q) ∧ (¬ (x2 - σ.1 1 5 = nI (wl t).length) → Q (some (.int 0)) σ)) ∧ (¬ (σ.1 1 3 = 0) → Q (some (.int 0)) σ)) : nh_E kX6_takesWord 9 [some (.ref 1), some (.ref (900 + t)), some (.int x2), none] [] σ Q := by
  have tail : (σ.1 1 1 ≤ x2 ∨ ¬ (¬ (σ.2.1 2 x2.toNatClampNeg < 97) ∧ ¬ (122 < σ.2.1 2 x2.toNatClampNeg))) → nh_E kX6_takesWord 35 [some (.ref 1), some (.ref (900 + t)), some (.int x2), none] [] σ Q := by
    intro c
    have h := h3 c
    refine nE_aload_n dX6_takesWord_35 rfl rfl ?_
    refine nE_callV (As := []) yf_X6_isSound ⟨by decide, by decide⟩ rfl rfl sC_1 rfl vl_X6_33 dX6_takesWord_36 rfl rfl (Nat.le_of_ble_eq_true rfl) (Nat.le_of_ble_eq_true rfl) (p_X6_isSound ?_)
    refine nE_ifb_eq (tgt := 55) dX6_takesWord_39 (by decide) ⟨fun c4 => ?_, fun c4 => ?_⟩
    · refine nE_iconst (v := 0) dX6_takesWord_55 (by decide) ?_
      exact nE_zret (ty := .boolean) dX6_takesWord_56 rfl (by decide) (h.2 c4)
    · have h := h.1 c4
      refine nE_iload_n dX6_takesWord_42 rfl rfl ?_
      refine nE_aload_n dX6_takesWord_43 rfl rfl ?_
      refine nE_getI fl_X6_24 sC_1 rfl dX6_takesWord_44 ?_
      refine nE_isub dX6_takesWord_47 ?_
      refine nE_aload_n dX6_takesWord_48 rfl rfl ?_
      refine nE_callT (As := []) ht yf_J0_length_8abf5 ⟨by decide, by decide⟩ rfl rfl vl_X6_48 dX6_takesWord_49 rfl rfl (Nat.le_of_ble_eq_true rfl) (Nat.le_of_ble_eq_true rfl) (j_length ht ?_)
      refine nE_icmp_eq (tgt := 57) dX6_takesWord_52 (by decide) ⟨fun c5 => ?_, fun c5 => ?_⟩
      · refine nE_iconst (v := 0) dX6_takesWord_57 (by decide) ?_
        exact nE_istore_n dX6_takesWord_58 rfl rfl (by decide) (h.1 c5)
      · refine nE_iconst (v := 0) dX6_takesWord_55 (by decide) ?_
        exact nE_zret (ty := .boolean) dX6_takesWord_56 rfl (by decide) (h.2 c5)
  refine nE_iload_n dX6_takesWord_9 rfl rfl ?_
  refine nE_aload_n dX6_takesWord_10 rfl rfl ?_
  refine nE_getI fl_X6_19 sC_1 rfl dX6_takesWord_11 ?_
  refine nE_icmp_ge (tgt := 35) dX6_takesWord_14 (by decide) ⟨fun c1 => tail (Or.inl c1), fun c1 => ?_⟩
  refine nE_aload_n dX6_takesWord_17 rfl rfl ?_
  refine nE_getC fl_X6_9 sC_1 rfl dX6_takesWord_18 ?_
  refine nE_iload_n dX6_takesWord_21 rfl rfl ?_
  refine nG_cald (j := x2.toNatClampNeg) sC_2 rfl dX6_takesWord_22 ⟨h1 c1, ?_⟩
  refine nE_callS (As := [.int (σ.2.1 2 x2.toNatClampNeg)]) yf_X6_isLetter ⟨by decide, by decide⟩ rfl sl_X6_44 dX6_takesWord_23 rfl rfl (Nat.le_of_ble_eq_true rfl) (Nat.le_of_ble_eq_true rfl) (p_X6_isLetter _ ?_)
  refine nE_ifb_eq (tgt := 35) dX6_takesWord_26 (by decide) ⟨fun c4 => tail (Or.inr c4), fun c4 => ?_⟩
  refine nE_iinc (v := x2 + 1) dX6_takesWord_29 rfl rfl (by decide) rfl ?_
  exact nE_goto (tgt := 9) dX6_takesWord_32 (by decide) (h2 c1 c4)
set_option maxRecDepth 20000 in
theorem sg_X6_takesWord_59 {t k : Nat} (ht : t < 5) (hk : k ≤ (wl t).length) (x2 : Int32) {σ : nh_S} {Q : Option Value → nh_S → Prop}
    (h1 : k < (wl t).length → vp_in (σ.1 1 5 + nI k) 600 ∧ (σ.2.1 2 (σ.1 1 5 + nI k).toNatClampNeg = nI ((wl t).getD k 0) → nh_E kX6_takesWord 59 [some (.ref 1), some (.ref (900 + t)), some (.int x2), some (.int (nI (k + 1)))] [] σ Q) ∧ (¬ (σ.2.1 2 (σ.1 1 5 + nI k).toNatClampNeg = nI ((wl t).getD k 0)) → Q (some (.int 0)) σ))
    (h2 : k = (wl t).length → Q (some (.int 1)) (nh_si (nh_si σ 1 2 (σ.1 1 5)) 1 5 x2)) : nh_E kX6_takesWord 59 [some (.ref 1), some (.ref (900 + t)), some (.int x2), some (.int (nI k))] [] σ Q := by
  have hl := j_len t ht
  have hw := wl_len t ht
  refine nE_iload_n dX6_takesWord_59 rfl rfl ?_
  refine nE_aload_n dX6_takesWord_60 rfl rfl ?_
  refine nE_callT (As := []) ht yf_J0_length_8abf5 ⟨by decide, by decide⟩ rfl rfl vl_X6_48 dX6_takesWord_61 rfl rfl (Nat.le_of_ble_eq_true rfl) (Nat.le_of_ble_eq_true rfl) (j_length ht ?_)
  refine nE_icmp_ge (tgt := 94) dX6_takesWord_64 (by decide) (pk_le (wl t).length k (fun c => ?_) (fun c => ?_))
  · refine nE_aload_n dX6_takesWord_94 rfl rfl ?_
    refine nE_aload_n dX6_takesWord_95 rfl rfl ?_
    refine nE_getI fl_X6_24 sC_1 rfl dX6_takesWord_96 ?_
    refine nE_putI fl_X6_27 sC_1 rfl ⟨rfl, rfl⟩ dX6_takesWord_99 ?_
    refine nE_aload_n dX6_takesWord_102 rfl rfl ?_
    refine nE_iload_n dX6_takesWord_103 rfl rfl ?_
    refine nE_putI fl_X6_24 sC_1 rfl ⟨rfl, rfl⟩ dX6_takesWord_104 ?_
    refine nE_iconst (v := 1) dX6_takesWord_107 (by decide) ?_
    exact nE_zret (ty := .boolean) dX6_takesWord_108 rfl (by decide) (h2 (by omega))
  · have h := h1 c
    refine nE_aload_n dX6_takesWord_67 rfl rfl ?_
    refine nE_getC fl_X6_9 sC_1 rfl dX6_takesWord_68 ?_
    refine nE_aload_n dX6_takesWord_71 rfl rfl ?_
    refine nE_getI fl_X6_24 sC_1 rfl dX6_takesWord_72 ?_
    refine nE_iload_n dX6_takesWord_75 rfl rfl ?_
    refine nE_iadd dX6_takesWord_76 ?_
    refine nG_cald (j := (σ.1 1 5 + nI k).toNatClampNeg) sC_2 rfl dX6_takesWord_77 ⟨h.1, ?_⟩
    refine nE_aload_n dX6_takesWord_78 rfl rfl ?_
    refine nE_iload_n dX6_takesWord_79 rfl rfl ?_
    refine nE_callT (As := [.int (nI k)]) ht yf_J0_charAt_5068e ⟨by decide, by decide⟩ rfl rfl vl_X6_53 dX6_takesWord_80 rfl rfl (Nat.le_of_ble_eq_true rfl) (Nat.le_of_ble_eq_true rfl) (j_charAt ht c ?_)
    refine nE_icmp_eq (tgt := 88) dX6_takesWord_83 (by decide) ⟨fun c5 => ?_, fun c5 => ?_⟩
    · refine nE_iinc (v := nI (k + 1)) dX6_takesWord_88 rfl rfl (by decide) (nI_1 k) ?_
      exact nE_goto (tgt := 59) dX6_takesWord_91 (by decide) (h.2.1 c5)
    · refine nE_iconst (v := 0) dX6_takesWord_86 (by decide) ?_
      exact nE_zret (ty := .boolean) dX6_takesWord_87 rfl (by decide) (h.2.2 c5)
