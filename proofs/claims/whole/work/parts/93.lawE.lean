/-! THE LAW, from its entry -/
set_option maxHeartbeats 2000000 in
theorem qs_init {p : Program} {l : Launch} {e : Env} {s : State} {m : MethodId} {below : List Frame} {meth : Method} {c : Code} {b L : Nat} {xs : Nat → Int32} (C0 : lw_At p s m meth c b L xs) {D : va_G} {tA : FieldType → ClassId} {ad : Nat → Nat} (hK : va_K D vwCl (nh_ty tA) s) (hX : nh_X ad (qA s) s) (hX2 : ng_X s) {K' : nh_K} {y : MethodName} {pc idx q ci' kc ks : Nat} {fs' : List Value} {pre : va_W} {H : Heap} {locs : List Loc} {lsA : Array Slot} {st : List Value} {Q : va_W → Prop} (hy : ng_Y K' y 0) (hrm : K'.2.2.2.2.1.frames + 1 ≤ 11 ∧ 8 + (K'.2.2.1 + 11) + K'.2.2.2.2.1.locals ≤ 452) (hcs : kc + K'.2.2.2.2.1.cells ≤ 600000 ∧ ks + K'.2.2.2.2.1.slots ≤ 7302250) (hw : Cond.methodLink RL idx y ∈ nh_tb) (hd : decode code pc = .ok (.invokespecial idx, 3)) (h8 : (st.map fun v => v.category).sum ≤ 8) (hfit : ([Value.ref q].flatMap nh_e1).length ≤ K'.2.2.1) (hP : va_P D vwCl (pre ++ [(q, .inr (ci', fs'))]) H) (hD : va_D (qA s) (pre ++ [(q, .inr (ci', fs'))])) (hS : va_S (qA s) s.heap H locs) (hl : lsA.size = 4)
    (kk : ng_E K' D tA ad (qA s) 0 (nh_en K'.2.2.1 [.ref q]) [] pre q ci' fs' [] 0 0 Q)
    (kk2 : ∀ (ws : va_W) (H1 : Heap) (locs1 : List Loc), Q ws → va_P D vwCl ws H1 → va_D (qA s) ws → va_S (qA s) s.heap H1 locs1 → W p l e room_1 s m #[Value.ref b] below meth c H1 locs1 (kc + K'.2.2.2.2.1.cells) (ks + K'.2.2.2.2.1.slots) (lw_Z below #[Value.ref b] s) (F0 m (pc + 3) lsA st)) : W p l e room_1 s m #[Value.ref b] below meth c H locs kc ks (lw_Z below #[Value.ref b] s) (F0 m pc lsA (.ref q :: st)) := by
  have hts := ql_tb C0
  have hM := ng_met l D tA ad (qA s) hy hfit kk
  have hcb : CallB room_1 s #[Value.ref b] RL idx y K'.2.1 K'.2.2.1 none (nh_wd K' y) K'.2.2.2.2.1 K'.2.2.2.2.1.cells K'.2.2.2.2.1.slots 0 := by
    have z : CallB room_1 s #[Value.ref b] RL idx y K'.2.1 K'.2.2.1 K'.2.2.2.1 (nh_wd K' y) K'.2.2.2.2.1 K'.2.2.2.2.1.cells K'.2.2.2.2.1.slots 0 := callB_of 0 hts (ng_wd_good hy) rfl rfl rfl (hts _ hy.2.2.1) (hts _ hw) hy.2.2.2.2.1 hrm
    rw [hy.2.2.2.2.2.2.2] at z
    exact z
  have hrun := va_runI (e := e) (below := below) (meth := meth) (b := q) (As := []) (rest := st) (Ts := nh_tb) (g := F0 m pc lsA (.ref q :: st)) (H := H) (locs := locs) (cells := kc) (slots := ks) ⟨C0.1, C0.2.1, C0.2.2.2.1, C0.2.2.2.2.1, hts⟩ hM ⟨hcb, hy.2.2.2.2.2.1, hts _ hy.2.2.2.2.2.2.1⟩ ⟨ng_blind D tA ad (qA s) _ _, fun U hU hW => ⟨rfl, by rw [hU]; exact hP, hD, va_K.moved hW.alike hK, fun q hq => Nat.le_trans hS.1 (by rw [← hU]; exact hq), hX.call hS hU hW, hX2.warm hW⟩⟩ rfl rfl hl rfl (lv_room h8) hd hcs
  intro T hT X
  obtain ⟨v, st₀, t, T', L0, h0, X', hL0, e1, e2, ⟨ws, hv, hQ, hP1, hD1, hF⟩, go⟩ := hrun T hT X
  cases hv
  have hS1 : va_S (qA s) s.heap t.heap (locs ++ L0) := by
    refine ⟨Nat.le_trans hS.1 (by rw [← h0]; exact hF.1), fun q h1 h2 => ?_, fun q hq => ?_⟩
    · rw [hF.2 q (by rw [h0]; exact Nat.lt_of_lt_of_le h1 hS.1) h2, h0]
      exact hS.2.1 q h1 h2
    · rcases List.mem_append.mp hq with h | h
      · exact hS.2.2 q h
      · exact hL0 q h
  obtain ⟨t2, a1, b1⟩ := kk2 ws t.heap (locs ++ L0) hQ hP1 hD1 hS1 T' e1 X'
  exact ⟨t2, go t2 a1, b1⟩
set_option maxHeartbeats 1000000 in
theorem qs_three {p : Program} {e : Env} {s : State} {m : MethodId} {below : List Frame} {meth : Method} {c : Code} {l : Launch} {b L : Nat} {xs : Nat → Int32} (hL : L ≤ 2560) (C0 : lw_At p s m meth c b L xs) {D : va_G} {tA : FieldType → ClassId} {ad : Nat → Nat} (hK : va_K D vwCl (nh_ty tA) s) (hX : nh_X ad (qA s) s) (hX2 : ng_X s) {LC LR : List Nat} {τ : nh_S} (hC : CR τ P0) {H : Heap} {locs : List Loc} {lsA : Array Slot} (hP : va_P D vwCl (nh_ws shC tA (nh_adL 102 LC ad) τ ++ nh_ws shR tA (nh_adL 27 LR ad) s0R) H) (hD : va_D (qA s) (nh_ws shC tA (nh_adL 102 LC ad) τ ++ nh_ws shR tA (nh_adL 27 LR ad) s0R)) (hS : va_S (qA s) s.heap H locs) (hl : nh_has id lsA 4 [some (.ref b), some (.ref (nh_adL 102 LC ad 0)), none, none]) : W p l e room_1 s m #[Value.ref b] below meth c H locs 129 11148 (lw_Z below #[Value.ref b] s) (F0 m (15) lsA [.ref (nh_adL 27 LR ad 0)]) := by
  refine lv_astore_n C0.1 C0.2.1 dL_law_15 rfl hl.lv (by decide) rfl (fun lsA h => ?_)
  have hl := nh_has.st1 (ad := id) (ls := [some (.ref b), some (.ref (nh_adL 102 LC ad 0)), none, none]) (i := 2) (v := .ref (nh_adL 27 LR ad 0)) hl.2.2.1 rfl h
  refine lv_iconst (v := 0) C0.1 C0.2.1 dL_law_16 (by decide) ?_
  refine lv_istore_n C0.1 C0.2.1 dL_law_17 rfl hl.lv (by decide) rfl (fun lsA h => ?_)
  have hl := nh_has.st1 (ad := id) (ls := [some (.ref b), some (.ref (nh_adL 102 LC ad 0)), some (.ref (nh_adL 27 LR ad 0)), none]) (i := 3) (v := .int (nI 0)) hl.2.2.1 rfl h
  have C : ql_C p s m meth c b L xs D tA (nh_adL 102 LC ad) (nh_adL 27 LR ad) := ⟨C0, hK, nh_X_cong (fun k hk => if_neg (by omega)) hX, nh_X_cong (fun k hk => if_neg (by omega)) hX⟩
  exact ql_loop C hL (L + 1) 0 P0 τ s0R (by omega) (Nat.zero_le _) WF_0 hC RR_0 H locs lsA hP hD hS hl
theorem qs_three' {p : Program} {e : Env} {s : State} {m : MethodId} {below : List Frame} {meth : Method} {c : Code} {l : Launch} {b L : Nat} {xs : Nat → Int32} (hL : L ≤ 2560) (C0 : lw_At p s m meth c b L xs) {D : va_G} {tA : FieldType → ClassId} {ad : Nat → Nat} (hK : va_K D vwCl (nh_ty tA) s) (hX : nh_X ad (qA s) s) (hX2 : ng_X s) {LC : List Nat} {τ : nh_S} {q2 kc ks : Nat} {ws : va_W} (hC : CR τ P0) {H : Heap} {locs : List Loc} {lsA : Array Slot} (hQ : ∃ LR : List Nat, nh_adL 27 LR ad 0 = q2 ∧ ws = nh_ws shC tA (nh_adL 102 LC ad) τ ++ nh_ws shR tA (nh_adL 27 LR ad) s0R) (hP : va_P D vwCl ws H) (hD : va_D (qA s) ws) (hS : va_S (qA s) s.heap H locs) (hl : nh_has id lsA 4 [some (.ref b), some (.ref (nh_adL 102 LC ad 0)), none, none]) (h1 : kc ≤ 129) (h2 : ks ≤ 11148) : W p l e room_1 s m #[Value.ref b] below meth c H locs kc ks (lw_Z below #[Value.ref b] s) (F0 m (15) lsA [.ref q2]) := by
  obtain ⟨LR, h3, h4⟩ := hQ
  rw [h4] at hP hD
  rw [← h3]
  exact W.widen h1 h2 (qs_three hL C0 hK hX hX2 hC hP hD hS hl)
set_option maxRecDepth 20000 in
set_option maxHeartbeats 1000000 in
theorem qs_two {p : Program} {e : Env} {s : State} {m : MethodId} {below : List Frame} {meth : Method} {c : Code} {l : Launch} {b L : Nat} {xs : Nat → Int32} (hL : L ≤ 2560) (C0 : lw_At p s m meth c b L xs) {D : va_G} {tA : FieldType → ClassId} {ad : Nat → Nat} (hK : va_K D vwCl (nh_ty tA) s) (hX : nh_X ad (qA s) s) (hX2 : ng_X s) {LC : List Nat} {τ : nh_S} (hC : CR τ P0) {H : Heap} {locs : List Loc} {lsA : Array Slot} (hP : va_P D vwCl (nh_ws shC tA (nh_adL 102 LC ad) τ) H) (hD : va_D (qA s) (nh_ws shC tA (nh_adL 102 LC ad) τ)) (hS : va_S (qA s) s.heap H locs) (hl : nh_has id lsA 4 [some (.ref b), none, none, none]) : W p l e room_1 s m #[Value.ref b] below meth c H locs 102 5669 (lw_Z below #[Value.ref b] s) (F0 m (7) lsA [.ref (nh_adL 102 LC ad 0)]) := by
  have hA : ∀ q : Nat, s.heap.size ≤ q → qA s q := fun _ h => h
  refine lv_astore_n C0.1 C0.2.1 dL_law_7 rfl hl.lv (by decide) rfl (fun lsA h => ?_)
  have hl := nh_has.st1 (ad := id) (ls := [some (.ref b), none, none, none]) (i := 1) (v := .ref (nh_adL 102 LC ad 0)) hl.2.2.1 rfl h
  refine va_new (ci := 9) (fs := [.null, .null, .null, .null, .null, .null, .null, .null, .null, .null, .null, .int 0, .int 0, .null, .int 0, .null, .int 0, .int 0, .int 0, .int 0, .int 0, .int 0, .null, .null, .null, .null, .int 0, .null, .null, .null, .null, .int 0, .null, .null, .int 0, .null, .null, .int 0, .null]) C0.1 C0.2.1 (ql_tb C0) ciX9.2.1 tyX9 ciX9.2.2.1 C0.2.2.2.2.1 (ql_tb C0 _ (nh_in (i := 923) (by decide +kernel) rfl)) (ql_tb C0 _ (nh_in (i := 924) (by decide +kernel) rfl)) (ql_tb C0 _ (nh_in (i := 80) (by decide +kernel) rfl)) hK hP hD hS hA ciX9.1 (fun j hj => by rcases (show j = 0 ∨ j = 1 ∨ j = 2 ∨ j = 3 ∨ j = 4 ∨ j = 5 ∨ j = 6 ∨ j = 7 ∨ j = 8 ∨ j = 9 ∨ j = 10 ∨ j = 11 ∨ j = 12 ∨ j = 13 ∨ j = 14 ∨ j = 15 ∨ j = 16 ∨ j = 17 ∨ j = 18 ∨ j = 19 ∨ j = 20 ∨ j = 21 ∨ j = 22 ∨ j = 23 ∨ j = 24 ∨ j = 25 ∨ j = 26 ∨ j = 27 ∨ j = 28 ∨ j = 29 ∨ j = 30 ∨ j = 31 ∨ j = 32 ∨ j = 33 ∨ j = 34 ∨ j = 35 ∨ j = 36 ∨ j = 37 ∨ j = 38 by omega) with rfl | rfl | rfl | rfl | rfl | rfl | rfl | rfl | rfl | rfl | rfl | rfl | rfl | rfl | rfl | rfl | rfl | rfl | rfl | rfl | rfl | rfl | rfl | rfl | rfl | rfl | rfl | rfl | rfl | rfl | rfl | rfl | rfl | rfl | rfl | rfl | rfl | rfl | rfl <;> rfl) (Nat.le_of_ble_eq_true rfl) (Nat.le_of_ble_eq_true rfl) dL_law_8 (fun q2 H hP hD hS => ?_)
  refine W.widen (k := 103) (n := 5708) (Nat.le_refl _) (Nat.le_refl _) ?_
  refine lv_dup C0.1 C0.2.1 dL_law_11 rfl ?_
  refine qs_init C0 hK hX hX2 (K' := kX9_init) (pre := nh_ws shC tA (nh_adL 102 LC ad) τ) gy_X9 ⟨by decide, by decide⟩ ⟨Nat.le_of_ble_eq_true rfl, Nat.le_of_ble_eq_true rfl⟩ (nh_in (i := 925) (by decide +kernel) rfl) dL_law_12 (Nat.le_of_ble_eq_true rfl) (Nat.le_of_ble_eq_true rfl) hP hD hS hl.1 (h_X9 (Q := fun ws => ∃ LR : List Nat, nh_adL 27 LR ad 0 = q2 ∧ ws = nh_ws shC tA (nh_adL 102 LC ad) τ ++ nh_ws shR tA (nh_adL 27 LR ad) s0R) (fun LR h1 => ⟨LR, h1, rfl⟩)) (fun ws H locs hQ hP hD hS => ?_)
  exact qs_three' hL C0 hK hX hX2 hC hQ hP hD hS hl (Nat.le_of_ble_eq_true rfl) (Nat.le_of_ble_eq_true rfl)
theorem qs_two' {p : Program} {e : Env} {s : State} {m : MethodId} {below : List Frame} {meth : Method} {c : Code} {l : Launch} {b L : Nat} {xs : Nat → Int32} (hL : L ≤ 2560) (C0 : lw_At p s m meth c b L xs) {D : va_G} {tA : FieldType → ClassId} {ad : Nat → Nat} (hK : va_K D vwCl (nh_ty tA) s) (hX : nh_X ad (qA s) s) (hX2 : ng_X s) {q kc ks : Nat} {ws : va_W} {H : Heap} {locs : List Loc} {lsA : Array Slot} (hQ : ∃ (LC : List Nat) (τ : nh_S), nh_adL 102 LC ad 0 = q ∧ CR τ P0 ∧ ws = nh_ws shC tA (nh_adL 102 LC ad) τ) (hP : va_P D vwCl ws H) (hD : va_D (qA s) ws) (hS : va_S (qA s) s.heap H locs) (hl : nh_has id lsA 4 [some (.ref b), none, none, none]) (h1 : kc ≤ 102) (h2 : ks ≤ 5669) : W p l e room_1 s m #[Value.ref b] below meth c H locs kc ks (lw_Z below #[Value.ref b] s) (F0 m (7) lsA [.ref q]) := by
  obtain ⟨LC, τ, h3, hC, h4⟩ := hQ
  rw [h4] at hP hD
  rw [← h3]
  exact W.widen h1 h2 (qs_two hL C0 hK hX hX2 hC hP hD hS hl)
set_option maxRecDepth 20000 in
set_option maxHeartbeats 4000000 in
theorem whole_start {p : Program} {e : Env} {s : State} {m : MethodId} {below : List Frame} {meth : Method} {c : Code} (l : Launch) {b L : Nat} {xs : Nat → Int32} (hL : L ≤ 2560) (C0 : lw_At p s m meth c b L xs) : W p l e room_1 s m #[Value.ref b] below meth c s.heap [] 0 0 (lw_Z below #[Value.ref b] s) (entryFrame m ([Value.ref b] : List Value).toArray 4) := by
  obtain ⟨D, hKD⟩ := ks_D C0
  obtain ⟨tA, hKA⟩ := ks_A C0
  obtain ⟨ad, hX⟩ := ks_X C0
  have hX2 := ks_G C0
  have hK : va_K D vwCl (nh_ty tA) s := ⟨hKD, hKA⟩
  have hA : ∀ q : Nat, s.heap.size ≤ q → qA s q := fun _ h => h
  have hS : va_S (qA s) s.heap s.heap [] := va_S.rf
  have hP : va_P D vwCl [] s.heap := fun k q h => by simp at h
  have hD : va_D (qA s) [] := ⟨fun i j p q h => by simp at h, fun k q h => by simp at h⟩
  have hl := lv_entry ([.ref b]) (n := 4) (Nat.le_of_ble_eq_true rfl)
  rw [lg_entry_eq]
  generalize (lg_sl ([.ref b]) ++ List.replicate (4 - (lg_sl ([.ref b])).length) Slot.unset).toArray = lsA at hl ⊢
  have hl : nh_has id lsA 4 [some (.ref b), none, none, none] := by
    refine ⟨hl.1, hl.2.1, rfl, fun i v hi => ?_⟩
    match i, hi with
    | 0, hi => cases hi; exact hl.2.2 (0, .ref b) (by exact List.mem_cons_self)
    | 1, hi => cases hi
    | 2, hi => cases hi
    | 3, hi => cases hi
    | i + 4, hi => simp at hi
  refine va_new (ci := 8) (fs := [.null, .null, .null, .null, .null, .null, .null, .null, .null, .null, .null, .null, .null, .null, .null, .null, .int 0]) C0.1 C0.2.1 (ql_tb C0) ciX8.2.1 tyX8 ciX8.2.2.1 C0.2.2.2.2.1 (ql_tb C0 _ (nh_in (i := 88) (by decide +kernel) rfl)) (ql_tb C0 _ (nh_in (i := 89) (by decide +kernel) rfl)) (ql_tb C0 _ (nh_in (i := 70) (by decide +kernel) rfl)) hK hP hD hS hA ciX8.1 (fun j hj => by rcases (show j = 0 ∨ j = 1 ∨ j = 2 ∨ j = 3 ∨ j = 4 ∨ j = 5 ∨ j = 6 ∨ j = 7 ∨ j = 8 ∨ j = 9 ∨ j = 10 ∨ j = 11 ∨ j = 12 ∨ j = 13 ∨ j = 14 ∨ j = 15 ∨ j = 16 by omega) with rfl | rfl | rfl | rfl | rfl | rfl | rfl | rfl | rfl | rfl | rfl | rfl | rfl | rfl | rfl | rfl | rfl <;> rfl) (Nat.le_of_ble_eq_true rfl) (Nat.le_of_ble_eq_true rfl) dL_law_0 (fun q H hP hD hS => ?_)
  refine W.widen (k := 1) (n := 17) (Nat.le_refl _) (Nat.le_refl _) ?_
  refine lv_dup C0.1 C0.2.1 dL_law_3 rfl ?_
  refine qs_init C0 hK hX hX2 (K' := kX8_init) (pre := []) gy_X8 ⟨by decide, by decide⟩ ⟨Nat.le_of_ble_eq_true rfl, Nat.le_of_ble_eq_true rfl⟩ (nh_in (i := 90) (by decide +kernel) rfl) dL_law_4 (Nat.le_of_ble_eq_true rfl) (Nat.le_of_ble_eq_true rfl) hP hD hS hl.1 (g_X8 (Q := fun ws => ∃ (LC : List Nat) (τ : nh_S), nh_adL 102 LC ad 0 = q ∧ CR τ P0 ∧ ws = nh_ws shC tA (nh_adL 102 LC ad) τ) (fun LC τ h1 h2 => ⟨LC, τ, h1, h2, rfl⟩)) (fun ws H locs hQ hP hD hS => ?_)
  exact qs_two' hL C0 hK hX hX2 hQ hP hD hS hl (Nat.le_of_ble_eq_true rfl) (Nat.le_of_ble_eq_true rfl)
