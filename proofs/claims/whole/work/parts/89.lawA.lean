/-! THE LAW's frame -/
abbrev qA (s : State) : Nat → Prop := fun q => s.heap.size ≤ q
def ql_C (p : Program) (s : State) (m : MethodId) (meth : Method) (c : Code) (b L : Nat) (xs : Nat → Int32) (D : va_G) (tA : FieldType → ClassId) (adC adR : Nat → Nat) : Prop :=
  lw_At p s m meth c b L xs ∧ va_K D vwCl (nh_ty tA) s ∧ nh_X adC (qA s) s ∧ nh_X adR (qA s) s
def ql_J (p : Program) (l : Launch) (e : Env) (s : State) (m : MethodId) (below : List Frame) (meth : Method) (c : Code) (b : Nat) (D : va_G) (tA : FieldType → ClassId) (adC adR : Nat → Nat) (pc : Nat) (ls : List (Option Value)) (st : List Value) (σ ρ : nh_S) : Prop :=
  ∀ (H : Heap) (locs : List Loc) (lsA : Array Slot), va_P D vwCl (nh_ws shC tA adC σ ++ nh_ws shR tA adR ρ) H → va_D (qA s) (nh_ws shC tA adC σ ++ nh_ws shR tA adR ρ) → va_S (qA s) s.heap H locs → nh_has id lsA 4 ls →
    W p l e room_1 s m #[Value.ref b] below meth c H locs 129 11148 (lw_Z below #[Value.ref b] s) (F0 m pc lsA st)
theorem ql_tb {p : Program} {s : State} {m : MethodId} {meth : Method} {c : Code} {b L : Nat} {xs : Nat → Int32} (C : lw_At p s m meth c b L xs) : ∀ w ∈ nh_tb, w.before #[Value.ref b] s = true := fun w hw => C.2.2.2.2.2.1 w (List.mem_filter.mp hw).1
/-- a world's addresses, whatever it holds -/
theorem nh_ws_ad (sh : List nh_Q) (tA : FieldType → ClassId) (ad : Nat → Nat) (σ : nh_S) {k : Nat} {q : Nat × va_E} (h : (nh_ws sh tA ad σ)[k]? = some q) : q.1 = ad k ∧ k < sh.length := by
  unfold nh_ws at h
  rw [List.getElem?_mapIdx] at h
  cases hs : sh[k]? with
  | none => rw [hs] at h; cases h
  | some x => rw [hs] at h; cases h; exact ⟨rfl, (List.getElem?_eq_some_iff.mp hs).1⟩
theorem nh_ws_len (sh : List nh_Q) (tA : FieldType → ClassId) (ad : Nat → Nat) (σ : nh_S) : (nh_ws sh tA ad σ).length = sh.length := by unfold nh_ws; rw [List.length_mapIdx]
theorem va_D_ad {A : Nat → Prop} {ws ws' : va_W} (h : ∀ (k : Nat) (q' : Nat × va_E), ws'[k]? = some q' → ∃ q : Nat × va_E, ws[k]? = some q ∧ q.1 = q'.1) (hD : va_D A ws) : va_D A ws' := by
  refine ⟨fun i j p q hi hj e => ?_, fun k q hk => ?_⟩
  · obtain ⟨p2, h1, h2⟩ := h i p hi
    obtain ⟨q2, h3, h4⟩ := h j q hj
    exact hD.1 i j p2 q2 h1 h3 (by rw [h2, h4]; exact e)
  · obtain ⟨q2, h1, h2⟩ := h k q hk
    rw [← h2]
    exact hD.2 k q2 h1
theorem ql_D2 {A : Nat → Prop} {tA : FieldType → ClassId} {adC adR : Nat → Nat} {σ ρ σ' ρ' : nh_S} (hD : va_D A (nh_ws shC tA adC σ ++ nh_ws shR tA adR ρ)) : va_D A (nh_ws shC tA adC σ' ++ nh_ws shR tA adR ρ') := by
  refine va_D_ad (fun k q' hk => ?_) hD
  have e1 := nh_ws_len shC tA adC σ
  have e2 := nh_ws_len shC tA adC σ'
  by_cases h : k < shC.length
  · rw [List.getElem?_append_left (by omega)] at hk ⊢
    obtain ⟨g1, g2⟩ := nh_ws_ad _ _ _ _ hk
    cases hs : shC[k]? with
    | none => rw [List.getElem?_eq_none_iff] at hs; omega
    | some x => exact ⟨_, nh_ws_at hs tA adC σ, g1.symm⟩
  · rw [List.getElem?_append_right (by omega)] at hk ⊢
    rw [e2] at hk
    rw [e1]
    obtain ⟨g1, g2⟩ := nh_ws_ad _ _ _ _ hk
    cases hs : shR[k - shC.length]? with
    | none => rw [List.getElem?_eq_none_iff] at hs; omega
    | some x => exact ⟨_, nh_ws_at hs tA adR ρ, g1.symm⟩
theorem nh_X.narrow {ad : Nat → Nat} {A B : Nat → Prop} {s : State} (h : nh_X ad A s) (hAB : ∀ q, B q → A q) : nh_X ad B s := by
  obtain ⟨x1, x2, x3, x5, x4⟩ := h
  exact ⟨x1.narrow hAB, x2, x3.narrow hAB, x5.imp (fun z => z.narrow hAB) (fun z => z.narrow hAB), x4⟩
theorem ql_aload {p : Program} {l : Launch} {e : Env} {s : State} {m : MethodId} {below : List Frame} {meth : Method} {c : Code} {b L : Nat} {xs : Nat → Int32} {D : va_G} {tA : FieldType → ClassId} {adC adR : Nat → Nat} (C : ql_C p s m meth c b L xs D tA adC adR) {pc : Nat} {ls : List (Option Value)} {st : List Value} {σ ρ : nh_S} {j : _root_.Fin 4} {i x : Nat} (hd : decode code pc = .ok (.aload_n j, 1)) (hi : (j : Nat) = i) (hx : ls[i]? = some (some (.ref x))) (kk : ql_J p l e s m below meth c b D tA adC adR (pc + 1) ls (.ref x :: st) σ ρ) : ql_J p l e s m below meth c b D tA adC adR (pc) ls (st) σ ρ := by
  intro H locs lsA hP hD hS hl
  exact lv_aload_n C.1.1 C.1.2.1 hd hi (show lsA[i]? = some (.val (.ref x)) from hl.2.2.2 _ _ hx) (kk H locs lsA hP hD hS hl)
theorem ql_arg {p : Program} {l : Launch} {e : Env} {s : State} {m : MethodId} {below : List Frame} {meth : Method} {c : Code} {b L : Nat} {xs : Nat → Int32} {D : va_G} {tA : FieldType → ClassId} {adC adR : Nat → Nat} (C : ql_C p s m meth c b L xs D tA adC adR) (hL : L ≤ 2560) {pc i k : Nat} {kz : Int} {r1 r2 : Option Value} {st : List Value} {σ ρ : nh_S} (d0 : decode code pc = .ok (.aload_n 0, 1)) (d1 : decode code (pc + 1) = .ok (.iload_n 3, 1)) (d2 : decode code (pc + 2) = .ok (.iconst kz, 1)) (d3 : decode code (pc + 3) = .ok (.iadd, 1)) (d4 : decode code (pc + 4) = .ok (.iaload, 1)) (hk : Int32.ofInt kz = nI k) (h : i + k < L) (kk : ql_J p l e s m below meth c b D tA adC adR (pc + 5) [some (.ref b), r1, r2, some (.int (nI i))] (.int (xs (i + k)) :: st) σ ρ) : ql_J p l e s m below meth c b D tA adC adR (pc) [some (.ref b), r1, r2, some (.int (nI i))] (st) σ ρ := by
  intro H locs lsA hP hD hS hl
  have hbA : ¬ qA s b := Nat.not_le.mpr C.1.2.2.2.2.2.2.2.1
  refine lv_aload_n C.1.1 C.1.2.1 d0 rfl (show lsA[0]? = some (.val (.ref b)) from hl.2.2.2 0 (.ref b) rfl) ?_
  refine lv_iload_n C.1.1 C.1.2.1 d1 rfl (show lsA[3]? = some (.val (.int (nI i))) from hl.2.2.2 3 (.int (nI i)) rfl) ?_
  refine lv_iconst (v := nI k) C.1.1 C.1.2.1 d2 hk ?_
  refine lv_iadd C.1.1 C.1.2.1 d3 ?_
  rw [nI_add]
  refine va_sld C.1.1 C.1.2.1 C.1.2.2.2.2.2.2.1 C.1.2.2.2.2.2.2.2.1 hbA hS (pk_in (i + k) L h rfl (by omega)) d4 ?_
  rw [nI_clamp (by omega)]
  exact kk H locs lsA hP hD hS hl
theorem ql_eq {p : Program} {l : Launch} {e : Env} {s : State} {m : MethodId} {below : List Frame} {meth : Method} {c : Code} {b L : Nat} {xs : Nat → Int32} {D : va_G} {tA : FieldType → ClassId} {adC adR : Nat → Nat} (C : ql_C p s m meth c b L xs D tA adC adR) {pc tgt : Nat} {off : Int} {ls : List (Option Value)} {st : List Value} {σ ρ : nh_S} {x : Int32} (hd : decode code pc = .ok (.if_icmp .eq off, 3)) (ht : (pc : Int) + off = (tgt : Int)) (kk : ql_J p l e s m below meth c b D tA adC adR (tgt) ls (st) σ ρ) : ql_J p l e s m below meth c b D tA adC adR (pc) ls (.int x :: .int x :: st) σ ρ := by
  intro H locs lsA hP hD hS hl
  exact lv_icmp_eq C.1.1 C.1.2.1 hd ht (fun _ => kk H locs lsA hP hD hS hl) (fun q => absurd rfl q)
set_option maxHeartbeats 2000000 in
theorem ql_callC {p : Program} {l : Launch} {e : Env} {s : State} {m : MethodId} {below : List Frame} {meth : Method} {c : Code} {b L : Nat} {xs : Nat → Int32} {D : va_G} {tA : FieldType → ClassId} {adC adR : Nat → Nat} (C : ql_C p s m meth c b L xs D tA adC adR) {pc : Nat} {ls : List (Option Value)} {st : List Value} {σ ρ : nh_S} {K' : nh_K} {y : MethodName} {n idx : Nat} {As : List Value} (hy : nh_Y K' y n) (hrm : K'.2.2.2.2.1.frames + 1 ≤ 11 ∧ 8 + (K'.2.2.1 + 11) + K'.2.2.2.2.1.locals ≤ 452) (hsh : K'.2.2.2.2.2 = shC) (hcq : RX8 = y.cls) (hw : Cond.methodLink RL idx y ∈ nh_tb ∧ Cond.instanceMethod y ∈ nh_tb ∧ Cond.selects y.cls y y ∈ nh_tb) (hd : decode code pc = .ok (.invokevirtual idx, 3)) (hn : As.length = n) (hAs : As.map (nh_rv adC) = As) (h8 : (st.map fun v => v.category).sum ≤ 8) (hfit : ((Value.ref 0 :: As).flatMap nh_e1).length ≤ K'.2.2.1)
    (kk : nh_E K' 0 (nh_en K'.2.2.1 (.ref 0 :: As)) [] σ (fun r τ => ∃ x, r = some (.int x) ∧ ql_J p l e s m below meth c b D tA adC adR (pc + 3) ls (.int x :: st) τ ρ)) : ql_J p l e s m below meth c b D tA adC adR (pc) ls (As.reverse ++ .ref (adC 0) :: st) σ ρ := by
  intro H locs lsA hP hD hS hl
  have hts := ql_tb C.1
  have hP0 : va_P D vwCl (nh_ws shC tA adC σ) H := fun k q hk => hP k q (by rw [List.getElem?_append_left (List.getElem?_eq_some_iff.mp hk).1]; exact hk)
  have hD0 : va_D (qA s) (nh_ws shC tA adC σ) := hD.by (fun k => k) (fun k q hk => by rw [List.getElem?_append_left (List.getElem?_eq_some_iff.mp hk).1]; exact hk) (fun i j _ _ h => h)
  have hPo : va_P D vwCl (nh_ws shR tA adR ρ) H := fun k q hk => hP (shC.length + k) q (by rw [List.getElem?_append_right (by rw [nh_ws_len]; omega), nh_ws_len, Nat.add_sub_cancel_left]; exact hk)
  have hA : ∀ q, va_A (nh_ws shC tA adC σ) H.size q → qA s q := by
    rintro q (⟨k, e, hk⟩ | h)
    · exact hD0.2 k _ hk
    · exact Nat.le_trans hS.1 h
  have hM := nh_met l D tA adC (va_A (nh_ws shC tA adC σ) H.size) hy hfit kk
  have hcb : CallB room_1 s #[Value.ref b] RL idx y K'.2.1 K'.2.2.1 K'.2.2.2.1 (nh_wd K' y) K'.2.2.2.2.1 0 0 n := callB_of n hts (nh_wd_good (K := K') hy) rfl hy.2.2.2.2.2.1 hy.2.2.2.2.2.2 (hts _ hy.2.2.1) (hts _ hw.1) hy.2.2.2.2.1 hrm
  have hrun := va_runV (e := e) (below := below) (meth := meth) (b := adC 0) (C := y.cls) (As := As) (rest := st) (Ts := nh_tb) (g := F0 m pc lsA (As.reverse ++ .ref (adC 0) :: st)) (H := H) (locs := locs) (cells := 129) (slots := 11148) ⟨C.1.1, C.1.2.1, C.1.2.2.2.1, C.1.2.2.2.2.1, hts⟩ hM ⟨hcb, hts _ hw.2.1, hts _ hw.2.2⟩ ⟨nh_blind K' D tA adC (va_A (nh_ws shC tA adC σ) H.size) σ _, by rw [← hcq]; exact va_recv (q := (RX8, TX8, 17)) C.2.1 hP0 (ci := 8) rfl (nh_ws_at sC_0 tA adC σ), fun U hU hW => ⟨by rw [List.map_cons, hAs]; rfl, by rw [hU, hsh]; exact hP0, by rw [hsh]; exact hD0.self, va_K.moved hW.alike C.2.1, fun q hq => Or.inr (by rw [← hU]; exact hq), ((C.2.2.1).call hS hU hW).narrow hA⟩⟩ rfl hn hl.1 rfl (lv_room h8) hd ⟨Nat.le_of_ble_eq_true rfl, Nat.le_of_ble_eq_true rfl⟩
  intro T hT X
  obtain ⟨v, st₀, t, T', L0, h0, X', hL0, e1, e2, ⟨r, τ, hv, ⟨x, hr1, kk2⟩, hP1, hD1, hF⟩, go⟩ := hrun T hT X
  subst hr1
  cases hv
  rw [hsh] at hP1
  have hP2 : va_P D vwCl (nh_ws shR tA adR ρ) t.heap := by
    refine hPo.kept (fun j q hj => ?_)
    rw [hF.2 q.1 (by rw [h0]; exact (hPo j q hj).lt) ?_, h0]
    rintro (⟨k, e', hk1⟩ | h)
    · exfalso
      have := hD.1 k (shC.length + j) (q.1, e') q (by rw [List.getElem?_append_left (List.getElem?_eq_some_iff.mp hk1).1]; exact hk1) (by rw [List.getElem?_append_right (by rw [nh_ws_len]; omega), nh_ws_len, Nat.add_sub_cancel_left]; exact hj) rfl
      have h1 := (nh_ws_ad _ _ _ _ hk1).2
      omega
    · have := (hPo j q hj).lt
      omega
  have hS1 : va_S (qA s) s.heap t.heap (locs ++ L0) := by
    refine ⟨Nat.le_trans hS.1 (by rw [← h0]; exact hF.1), fun q h1 h2 => ?_, fun q hq => ?_⟩
    · rw [hF.2 q (by rw [h0]; exact Nat.lt_of_lt_of_le h1 hS.1) (fun z => h2 (hA q z)), h0]
      exact hS.2.1 q h1 h2
    · rcases List.mem_append.mp hq with h | h
      · exact hS.2.2 q h
      · exact hA _ (hL0 q h)
  obtain ⟨t2, a1, b1⟩ := kk2 t.heap (locs ++ L0) lsA (hP1.app hP2) (ql_D2 hD) hS1 hl T' e1 X'
  exact ⟨t2, go t2 a1, b1⟩
set_option maxHeartbeats 2000000 in
theorem ql_callR {p : Program} {l : Launch} {e : Env} {s : State} {m : MethodId} {below : List Frame} {meth : Method} {c : Code} {b L : Nat} {xs : Nat → Int32} {D : va_G} {tA : FieldType → ClassId} {adC adR : Nat → Nat} (C : ql_C p s m meth c b L xs D tA adC adR) {pc : Nat} {ls : List (Option Value)} {st : List Value} {σ ρ : nh_S} {K' : nh_K} {y : MethodName} {n idx : Nat} {As : List Value} (hy : nh_Y K' y n) (hrm : K'.2.2.2.2.1.frames + 1 ≤ 11 ∧ 8 + (K'.2.2.1 + 11) + K'.2.2.2.2.1.locals ≤ 452) (hsh : K'.2.2.2.2.2 = shR) (hcq : RX9 = y.cls) (hw : Cond.methodLink RL idx y ∈ nh_tb ∧ Cond.instanceMethod y ∈ nh_tb ∧ Cond.selects y.cls y y ∈ nh_tb) (hd : decode code pc = .ok (.invokevirtual idx, 3)) (hn : As.length = n) (hAs : As.map (nh_rv adR) = As) (h8 : (st.map fun v => v.category).sum ≤ 8) (hfit : ((Value.ref 0 :: As).flatMap nh_e1).length ≤ K'.2.2.1)
    (kk : nh_E K' 0 (nh_en K'.2.2.1 (.ref 0 :: As)) [] ρ (fun r τ => ∃ x, r = some (.int x) ∧ ql_J p l e s m below meth c b D tA adC adR (pc + 3) ls (.int x :: st) σ τ)) : ql_J p l e s m below meth c b D tA adC adR (pc) ls (As.reverse ++ .ref (adR 0) :: st) σ ρ := by
  intro H locs lsA hP hD hS hl
  have hts := ql_tb C.1
  have hP0 : va_P D vwCl (nh_ws shR tA adR ρ) H := fun k q hk => hP (shC.length + k) q (by rw [List.getElem?_append_right (by rw [nh_ws_len]; omega), nh_ws_len, Nat.add_sub_cancel_left]; exact hk)
  have hD0 : va_D (qA s) (nh_ws shR tA adR ρ) := hD.by (fun k => shC.length + k) (fun k q hk => by rw [List.getElem?_append_right (by rw [nh_ws_len]; omega), nh_ws_len, Nat.add_sub_cancel_left]; exact hk) (fun i j _ _ h => by omega)
  have hPo : va_P D vwCl (nh_ws shC tA adC σ) H := fun k q hk => hP k q (by rw [List.getElem?_append_left (List.getElem?_eq_some_iff.mp hk).1]; exact hk)
  have hA : ∀ q, va_A (nh_ws shR tA adR ρ) H.size q → qA s q := by
    rintro q (⟨k, e, hk⟩ | h)
    · exact hD0.2 k _ hk
    · exact Nat.le_trans hS.1 h
  have hM := nh_met l D tA adR (va_A (nh_ws shR tA adR ρ) H.size) hy hfit kk
  have hcb : CallB room_1 s #[Value.ref b] RL idx y K'.2.1 K'.2.2.1 K'.2.2.2.1 (nh_wd K' y) K'.2.2.2.2.1 0 0 n := callB_of n hts (nh_wd_good (K := K') hy) rfl hy.2.2.2.2.2.1 hy.2.2.2.2.2.2 (hts _ hy.2.2.1) (hts _ hw.1) hy.2.2.2.2.1 hrm
  have hrun := va_runV (e := e) (below := below) (meth := meth) (b := adR 0) (C := y.cls) (As := As) (rest := st) (Ts := nh_tb) (g := F0 m pc lsA (As.reverse ++ .ref (adR 0) :: st)) (H := H) (locs := locs) (cells := 129) (slots := 11148) ⟨C.1.1, C.1.2.1, C.1.2.2.2.1, C.1.2.2.2.2.1, hts⟩ hM ⟨hcb, hts _ hw.2.1, hts _ hw.2.2⟩ ⟨nh_blind K' D tA adR (va_A (nh_ws shR tA adR ρ) H.size) ρ _, by rw [← hcq]; exact va_recv (q := (RX9, TX9, 39)) C.2.1 hP0 (ci := 9) rfl (nh_ws_at sR_0 tA adR ρ), fun U hU hW => ⟨by rw [List.map_cons, hAs]; rfl, by rw [hU, hsh]; exact hP0, by rw [hsh]; exact hD0.self, va_K.moved hW.alike C.2.1, fun q hq => Or.inr (by rw [← hU]; exact hq), ((C.2.2.2).call hS hU hW).narrow hA⟩⟩ rfl hn hl.1 rfl (lv_room h8) hd ⟨Nat.le_of_ble_eq_true rfl, Nat.le_of_ble_eq_true rfl⟩
  intro T hT X
  obtain ⟨v, st₀, t, T', L0, h0, X', hL0, e1, e2, ⟨r, τ, hv, ⟨x, hr1, kk2⟩, hP1, hD1, hF⟩, go⟩ := hrun T hT X
  subst hr1
  cases hv
  rw [hsh] at hP1
  have hP2 : va_P D vwCl (nh_ws shC tA adC σ) t.heap := by
    refine hPo.kept (fun j q hj => ?_)
    rw [hF.2 q.1 (by rw [h0]; exact (hPo j q hj).lt) ?_, h0]
    rintro (⟨k, e', hk1⟩ | h)
    · exfalso
      have := hD.1 (shC.length + k) j (q.1, e') q (by rw [List.getElem?_append_right (by rw [nh_ws_len]; omega), nh_ws_len, Nat.add_sub_cancel_left]; exact hk1) (by rw [List.getElem?_append_left (List.getElem?_eq_some_iff.mp hj).1]; exact hj) rfl
      have h1 := (nh_ws_ad _ _ _ _ hj).2
      omega
    · have := (hPo j q hj).lt
      omega
  have hS1 : va_S (qA s) s.heap t.heap (locs ++ L0) := by
    refine ⟨Nat.le_trans hS.1 (by rw [← h0]; exact hF.1), fun q h1 h2 => ?_, fun q hq => ?_⟩
    · rw [hF.2 q (by rw [h0]; exact Nat.lt_of_lt_of_le h1 hS.1) (fun z => h2 (hA q z)), h0]
      exact hS.2.1 q h1 h2
    · rcases List.mem_append.mp hq with h | h
      · exact hS.2.2 q h
      · exact hA _ (hL0 q h)
  obtain ⟨t2, a1, b1⟩ := kk2 t.heap (locs ++ L0) lsA (hP2.app hP1) (ql_D2 hD) hS1 hl T' e1 X'
  exact ⟨t2, go t2 a1, b1⟩
