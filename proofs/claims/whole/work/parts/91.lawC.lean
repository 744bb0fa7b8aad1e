/-! THE LAW's loop -/
set_option maxRecDepth 20000 in
set_option maxHeartbeats 2000000 in
theorem ql_loop {p : Program} {l : Launch} {e : Env} {s : State} {m : MethodId} {below : List Frame} {meth : Method} {c : Code} {b L : Nat} {xs : Nat → Int32} {D : va_G} {tA : FieldType → ClassId} {adC adR : Nat → Nat} (C : ql_C p s m meth c b L xs D tA adC adR) (hL : L ≤ 2560) : ∀ (n i : Nat) (S : SP) (σ ρ : nh_S), L + 1 ≤ i + n → i ≤ L → WF S → CR σ S → RR ρ S → ql_J p l e s m below meth c b D tA adC adR (18) [some (.ref b), some (.ref (adC 0)), some (.ref (adR 0)), some (.int (nI i))] ([]) σ ρ := by
  have hbA : ¬ qA s b := Nat.not_le.mpr C.1.2.2.2.2.2.2.2.1
  intro n
  induction n with
  | zero =>
    intro i S σ ρ h1 h2
    omega
  | succ n ih =>
    intro i S σ ρ h1 h2 hW hC hR
    have next : i + 5 ≤ L → ∀ S' σ' ρ', WF S' → CR σ' S' → RR ρ' S' → ql_J p l e s m below meth c b D tA adC adR (1313) [some (.ref b), some (.ref (adC 0)), some (.ref (adR 0)), some (.int (nI i))] ([]) σ' ρ' := by
      intro hi S' σ' ρ' hW' hC' hR' H locs lsA hP hD hS hl
      obtain ⟨q, hq1⟩ := List.getElem?_of_mem (nh_ll_mem (ad := id) (ls := [some (.ref b), some (.ref (adC 0)), some (.ref (adR 0)), some (.int (nI i))]) (q := (3, .int (nI i))).mpr ⟨.int (nI i), rfl, rfl⟩)
      refine lv_iinc (v := nI (i + 5)) C.1.1 C.1.2.1 dL_law_1313 hl.lv hq1 (show nI i + nI 5 = nI (i + 5) from nI_add i 5) (by decide) rfl (fun lsB h => ?_)
      refine lv_goto (tgt := 18) C.1.1 C.1.2.1 dL_law_1316 (by decide) ?_
      exact ih (i + 5) S' σ' ρ' (by omega) (by omega) hW' hC' hR' H locs lsB hP hD hS (nh_has.st1 (v := .int (nI (i + 5))) hl.2.2.1 rfl h)
    intro H locs lsA hP hD hS hl
    have l0 : lsA[0]? = some (.val (.ref b)) := hl.2.2.2 0 (.ref b) rfl
    have l3 : lsA[3]? = some (.val (.int (nI i))) := hl.2.2.2 3 (.int (nI i)) rfl
    refine lv_iload_n C.1.1 C.1.2.1 dL_law_18 rfl l3 ?_
    refine lv_aload_n C.1.1 C.1.2.1 dL_law_19 rfl l0 ?_
    refine va_slen C.1.1 C.1.2.1 C.1.2.2.2.2.2.2.1 C.1.2.2.2.2.2.2.2.1 hbA hS dL_law_20 ?_
    refine lv_iconst (v := 5) C.1.1 C.1.2.1 dL_law_21 (by decide) ?_
    refine lv_isub C.1.1 C.1.2.1 dL_law_22 ?_
    refine lv_icmp_gt (tgt := 1319) C.1.1 C.1.2.1 dL_law_23 (by decide) (fun c1 => ?_) (fun c1 => ?_)
    · refine lv_iconst (v := 1) C.1.1 C.1.2.1 dL_law_1319 (by decide) ?_
      refine va_forget (fun q hq => hS.2.2 q hq) ?_
      refine W.widen (k := 600000) (n := 7302250) (Nat.le_of_ble_eq_true rfl) (Nat.le_of_ble_eq_true rfl) ?_
      exact lw_ret C.1.1 C.1.2.1 C.1.2.2.1 C.1.2.2.2.2.2.2.2.2.1 dL_law_1320
    · have hi : i + 5 ≤ L := by
        rw [Int32.lt_iff_toInt_lt, show (Int32.ofNat L - 5).toInt = (L : Int) - 5 from pk_sub_toInt (a := L) (b := 5) (by omega) (by omega), nI_toInt (by omega)] at c1
        omega
      refine lv_aload_n C.1.1 C.1.2.1 dL_law_26 rfl l0 ?_
      refine lv_iload_n C.1.1 C.1.2.1 dL_law_27 rfl l3 ?_
      refine va_sld C.1.1 C.1.2.1 C.1.2.2.2.2.2.2.1 C.1.2.2.2.2.2.2.2.1 hbA hS (pk_in i L (by omega) rfl (by omega)) dL_law_28 ?_
      refine lv_bipush (v := 63) C.1.1 C.1.2.1 dL_law_29 (by decide) ?_
      refine lv_iand C.1.1 C.1.2.1 dL_law_31 ?_
      obtain ⟨j, hj, ej⟩ := pk_andE (xs (nI i).toNatClampNeg) (m := 63) 6 (by decide)
      rw [ej]
      by_cases h35 : j < 35
      · rcases (show j = 0 ∨ j = 1 ∨ j = 2 ∨ j = 3 ∨ j = 4 ∨ j = 5 ∨ j = 6 ∨ j = 7 ∨ j = 8 ∨ j = 9 ∨ j = 10 ∨ j = 11 ∨ j = 12 ∨ j = 13 ∨ j = 14 ∨ j = 15 ∨ j = 16 ∨ j = 17 ∨ j = 18 ∨ j = 19 ∨ j = 20 ∨ j = 21 ∨ j = 22 ∨ j = 23 ∨ j = 24 ∨ j = 25 ∨ j = 26 ∨ j = 27 ∨ j = 28 ∨ j = 29 ∨ j = 30 ∨ j = 31 ∨ j = 32 ∨ j = 33 ∨ j = 34 by omega) with rfl | rfl | rfl | rfl | rfl | rfl | rfl | rfl | rfl | rfl | rfl | rfl | rfl | rfl | rfl | rfl | rfl | rfl | rfl | rfl | rfl | rfl | rfl | rfl | rfl | rfl | rfl | rfl | rfl | rfl | rfl | rfl | rfl | rfl | rfl
        · exact lv_tableIn (off := 156) (tgt := 188) C.1.1 C.1.2.1 dL_law_32 (by decide) (by decide) rfl (by decide) (q_feed C hL hi hW hC hR (next hi) H locs lsA hP hD hS hl)
        · exact lv_tableIn (off := 219) (tgt := 251) C.1.1 C.1.2.1 dL_law_32 (by decide) (by decide) rfl (by decide) (q_parish C hL hi hW hC hR (next hi) H locs lsA hP hD hS hl)
        · exact lv_tableIn (off := 232) (tgt := 264) C.1.1 C.1.2.1 dL_law_32 (by decide) (by decide) rfl (by decide) (q_plan C hL hi hW hC hR (next hi) H locs lsA hP hD hS hl)
        · exact lv_tableIn (off := 245) (tgt := 277) C.1.1 C.1.2.1 dL_law_32 (by decide) (by decide) rfl (by decide) (q_fault C hL hi hW hC hR (next hi) H locs lsA hP hD hS hl)
        · exact lv_tableIn (off := 258) (tgt := 290) C.1.1 C.1.2.1 dL_law_32 (by decide) (by decide) rfl (by decide) (q_told C hL hi hW hC hR (next hi) H locs lsA hP hD hS hl)
        · exact lv_tableIn (off := 281) (tgt := 313) C.1.1 C.1.2.1 dL_law_32 (by decide) (by decide) rfl (by decide) (q_house C hL hi hW hC hR (next hi) H locs lsA hP hD hS hl)
        · exact lv_tableIn (off := 314) (tgt := 346) C.1.1 C.1.2.1 dL_law_32 (by decide) (by decide) rfl (by decide) (q_far C hL hi hW hC hR (next hi) H locs lsA hP hD hS hl)
        · exact lv_tableIn (off := 347) (tgt := 379) C.1.1 C.1.2.1 dL_law_32 (by decide) (by decide) rfl (by decide) (q_part C hL hi hW hC hR (next hi) H locs lsA hP hD hS hl)
        · exact lv_tableIn (off := 380) (tgt := 412) C.1.1 C.1.2.1 dL_law_32 (by decide) (by decide) rfl (by decide) (q_away C hL hi hW hC hR (next hi) H locs lsA hP hD hS hl)
        · exact lv_tableIn (off := 403) (tgt := 435) C.1.1 C.1.2.1 dL_law_32 (by decide) (by decide) rfl (by decide) (q_awake C hL hi hW hC hR (next hi) H locs lsA hP hD hS hl)
        · exact lv_tableIn (off := 436) (tgt := 468) C.1.1 C.1.2.1 dL_law_32 (by decide) (by decide) rfl (by decide) (q_comes C hL hi hW hC hR (next hi) H locs lsA hP hD hS hl)
        · exact lv_tableIn (off := 479) (tgt := 511) C.1.1 C.1.2.1 dL_law_32 (by decide) (by decide) rfl (by decide) (q_stands C hL hi hW hC hR (next hi) H locs lsA hP hD hS hl)
        · exact lv_tableIn (off := 512) (tgt := 544) C.1.1 C.1.2.1 dL_law_32 (by decide) (by decide) rfl (by decide) (q_put C hL hi hW hC hR (next hi) H locs lsA hP hD hS hl)
        · exact lv_tableIn (off := 555) (tgt := 587) C.1.1 C.1.2.1 dL_law_32 (by decide) (by decide) rfl (by decide) (q_waited C hL hi hW hC hR (next hi) H locs lsA hP hD hS hl)
        · exact lv_tableIn (off := 588) (tgt := 620) C.1.1 C.1.2.1 dL_law_32 (by decide) (by decide) rfl (by decide) (q_odds C hL hi hW hC hR (next hi) H locs lsA hP hD hS hl)
        · exact lv_tableIn (off := 641) (tgt := 673) C.1.1 C.1.2.1 dL_law_32 (by decide) (by decide) rfl (by decide) (q_night C hL hi hW hC hR (next hi) H locs lsA hP hD hS hl)
        · exact lv_tableIn (off := 664) (tgt := 696) C.1.1 C.1.2.1 dL_law_32 (by decide) (by decide) rfl (by decide) (q_crier C hL hi hW hC hR (next hi) H locs lsA hP hD hS hl)
        · exact lv_tableIn (off := 707) (tgt := 739) C.1.1 C.1.2.1 dL_law_32 (by decide) (by decide) rfl (by decide) (q_keepAt C hL hi hW hC hR (next hi) H locs lsA hP hD hS hl)
        · exact lv_tableIn (off := 740) (tgt := 772) C.1.1 C.1.2.1 dL_law_32 (by decide) (by decide) rfl (by decide) (q_kept C hL hi hW hC hR (next hi) H locs lsA hP hD hS hl)
        · exact lv_tableIn (off := 783) (tgt := 815) C.1.1 C.1.2.1 dL_law_32 (by decide) (by decide) rfl (by decide) (q_reach C hL hi hW hC hR (next hi) H locs lsA hP hD hS hl)
        · exact lv_tableIn (off := 806) (tgt := 838) C.1.1 C.1.2.1 dL_law_32 (by decide) (by decide) rfl (by decide) (q_needed C hL hi hW hC hR (next hi) H locs lsA hP hD hS hl)
        · exact lv_tableIn (off := 829) (tgt := 861) C.1.1 C.1.2.1 dL_law_32 (by decide) (by decide) rfl (by decide) (q_fit C hL hi hW hC hR (next hi) H locs lsA hP hD hS hl)
        · exact lv_tableIn (off := 862) (tgt := 894) C.1.1 C.1.2.1 dL_law_32 (by decide) (by decide) rfl (by decide) (q_ladders C hL hi hW hC hR (next hi) H locs lsA hP hD hS hl)
        · exact lv_tableIn (off := 895) (tgt := 927) C.1.1 C.1.2.1 dL_law_32 (by decide) (by decide) rfl (by decide) (q_longest C hL hi hW hC hR (next hi) H locs lsA hP hD hS hl)
        · exact lv_tableIn (off := 918) (tgt := 950) C.1.1 C.1.2.1 dL_law_32 (by decide) (by decide) rfl (by decide) (q_cost C hL hi hW hC hR (next hi) H locs lsA hP hD hS hl)
        · exact lv_tableIn (off := 951) (tgt := 983) C.1.1 C.1.2.1 dL_law_32 (by decide) (by decide) rfl (by decide) (q_store C hL hi hW hC hR (next hi) H locs lsA hP hD hS hl)
        · exact lv_tableIn (off := 974) (tgt := 1006) C.1.1 C.1.2.1 dL_law_32 (by decide) (by decide) rfl (by decide) (q_spares C hL hi hW hC hR (next hi) H locs lsA hP hD hS hl)
        · exact lv_tableIn (off := 1027) (tgt := 1059) C.1.1 C.1.2.1 dL_law_32 (by decide) (by decide) rfl (by decide) (q_two C hL hi hW hC hR (next hi) H locs lsA hP hD hS hl)
        · exact lv_tableIn (off := 1080) (tgt := 1112) C.1.1 C.1.2.1 dL_law_32 (by decide) (by decide) rfl (by decide) (q_log C hL hi hW hC hR (next hi) H locs lsA hP hD hS hl)
        · exact lv_tableIn (off := 1113) (tgt := 1145) C.1.1 C.1.2.1 dL_law_32 (by decide) (by decide) rfl (by decide) (q_clear C hL hi hW hC hR (next hi) H locs lsA hP hD hS hl)
        · exact lv_tableIn (off := 1126) (tgt := 1158) C.1.1 C.1.2.1 dL_law_32 (by decide) (by decide) rfl (by decide) (q_late C hL hi hW hC hR (next hi) H locs lsA hP hD hS hl)
        · exact lv_tableIn (off := 1169) (tgt := 1201) C.1.1 C.1.2.1 dL_law_32 (by decide) (by decide) rfl (by decide) (q_judge C hL hi hW hC hR (next hi) H locs lsA hP hD hS hl)
        · exact lv_tableIn (off := 1212) (tgt := 1244) C.1.1 C.1.2.1 dL_law_32 (by decide) (by decide) rfl (by decide) (q_seed C hL hi hW hC hR (next hi) H locs lsA hP hD hS hl)
        · exact lv_tableIn (off := 1235) (tgt := 1267) C.1.1 C.1.2.1 dL_law_32 (by decide) (by decide) rfl (by decide) (q_keep C hL hi hW hC hR (next hi) H locs lsA hP hD hS hl)
        · exact lv_tableIn (off := 1258) (tgt := 1290) C.1.1 C.1.2.1 dL_law_32 (by decide) (by decide) rfl (by decide) (q_goBack C hL hi hW hC hR (next hi) H locs lsA hP hD hS hl)
      · refine lv_tableOut (tgt := 1313) C.1.1 C.1.2.1 dL_law_32 (Or.inr ?_) (by decide) (next hi S σ ρ hW hC hR H locs lsA hP hD hS hl)
        rw [nI_toInt (by omega)]
        omega
