/-! CALLS -/
theorem nh_good : ∀ w ∈ nh_tb, goodWord w = true := by
  exact fun w hw => (List.mem_filter.mp hw).2
/-- the words of every method: its own code, and the tables -/
def nh_wd (K : nh_K) (y : MethodName) : List Cond := .code y K.2.1 K.2.2.1 K.2.2.2.1 :: nh_tb
/-- a method that can be called -/
def nh_Y (K : nh_K) (y : MethodName) (n : Nat) : Prop := Cond.code y K.2.1 K.2.2.1 K.2.2.2.1 ∈ nh_tb ∧ K.1 = y.cls ∧ Cond.initialized y.cls ∈ nh_tb ∧ plainName y.cls = true ∧ (y.cls ≠ "java/lang/invoke/MethodHandle" ∧ y.cls ≠ "java/lang/invoke/VarHandle" ∧ (parseMethodDescriptor y.desc).map (fun d => d.parameters.length) = some n) ∧ K.2.2.2.2.1.cells = 0 ∧ K.2.2.2.2.1.slots = 0
theorem nh_wd_good {K K' : nh_K} {y : MethodName} {n : Nat} (h : nh_Y K' y n) : GoodIn nh_tb (nh_wd K' y) := by
  intro w hw
  rcases List.mem_cons.mp hw with rfl | hw
  · exact ⟨h.1, good_of_word (nh_good _ h.1)⟩
  · exact ⟨hw, good_of_word (nh_good _ hw)⟩
/-- the world at a method's entry -/
def nh_W (K : nh_K) (D : va_G) (tA : FieldType → ClassId) (ad : Nat → Nat) (A : Nat → Prop) (σ : nh_S) (U : State) : Prop :=
  va_P D vwCl (nh_ws K.2.2.2.2.2 tA ad σ) U.heap ∧ va_D A (nh_ws K.2.2.2.2.2 tA ad σ) ∧ va_K D vwCl (nh_ty tA) U ∧ (∀ q : Nat, U.heap.size ≤ q → A q) ∧ nh_X ad A U
/-- its end -/
def nh_Z (K : nh_K) (D : va_G) (tA : FieldType → ClassId) (ad : Nat → Nat) (A : Nat → Prop) (Q : Option Value → nh_S → Prop) : Array Value → State → Outcome → State → Prop := fun _ s oc t =>
  ∃ (r : Option Value) (τ : nh_S), oc = .returned (r.map (nh_rv ad)) ∧ Q r τ ∧ va_P D vwCl (nh_ws K.2.2.2.2.2 tA ad τ) t.heap ∧ va_D A (nh_ws K.2.2.2.2.2 tA ad τ) ∧ va_F A s t
set_option maxHeartbeats 1000000 in
theorem nh_met {K : nh_K} {y : MethodName} {n : Nat} (l : Launch) (D : va_G) (tA : FieldType → ClassId) (ad : Nat → Nat) (A : Nat → Prop) {As : List Value} {σ : nh_S} {Q : Option Value → nh_S → Prop} (hy : nh_Y K y n) (hfit : (As.flatMap nh_e1).length ≤ K.2.2.1) (hE : nh_E K 0 (nh_en K.2.2.1 As) [] σ Q) :
    Met l y (nh_wd K y) K.2.2.2.2.1 (va_Pc (As.map (nh_rv ad)) (nh_W K D tA ad A σ)) (nh_Z K D tA ad A Q) 0 0 A := by
  refine Met.ofW (cc := K.2.1) (maxL := K.2.2.1) (ret := K.2.2.2.1) hy.2.2.2.1 rfl ?_
  intro p e s m args below meth c s₁ B hml hv
  obtain ⟨rfl, hP, hD, hK, hA, hX⟩ := hv
  have hts := atoms_spec (ws := nh_wd K y) B.pre
  have hown : s.vm.findClass y.cls = some m.cls := findClass_of_methodNamed B.named
  have hlen : (lg_sl (As.map (nh_rv ad))).length ≤ K.2.2.1 := by rw [nh_en_len]; exact hfit
  have hl := lv_entry (As.map (nh_rv ad)) (n := K.2.2.1) hlen
  rw [lg_entry_eq]
  generalize (lg_sl (As.map (nh_rv ad)) ++ List.replicate (K.2.2.1 - (lg_sl (As.map (nh_rv ad))).length) Slot.unset).toArray = lsA at hl ⊢
  have hh : nh_has ad lsA K.2.2.1 (nh_en K.2.2.1 As) := by
    refine ⟨hl.1, hl.2.1, ?_, fun i v hi => ?_⟩
    · unfold nh_en
      rw [List.length_append, List.length_replicate]
      omega
    · have h1 := nh_en_args ad As _ 0 i v hi
      rw [Nat.zero_add] at h1
      exact hl.2.2 _ h1
  refine hE p l e s m _ below meth c s.heap [] lsA D tA ad A _ A ⟨B.exec, B.bytes, hml, B.returns, B.notSynchronized, by rw [hy.2.1]; exact hown, fun w hw => hts w (List.mem_cons_of_mem _ hw), hK, hA, hX⟩ hP hD va_S.rf hh ?_ (fun _ h => h)
  intro r τ t locs' h1 h2 h3 h4 h5
  exact ⟨r, τ, rfl, h1, h2, h3, ⟨h4.1, h4.2.1⟩⟩
theorem nh_blind (K : nh_K) (D : va_G) (tA : FieldType → ClassId) (ad : Nat → Nat) (A : Nat → Prop) (σ : nh_S) (av : List Value) : FrameBlind (va_Pc av (nh_W K D tA ad A σ)) := by
  intro a U g mk h
  obtain ⟨h0, hP, hD, hK, hA, hX⟩ := h
  have hW : U.vm.Alike (U.calling g mk a).vm := Vm.Alike.refl U.vm
  refine ⟨h0, hP, hD, va_K.moved (u := U) (U := U.calling g mk a) hW hK, hA, ?_⟩
  obtain ⟨x1, x2, x3, x5, x4⟩ := hX
  exact ⟨vk_S.moved (u := U) (U := U.calling g mk a) hW x1, fun q hq => (x2 q hq).same (u := U) (U := U.calling g mk a) rfl, va_Z.moved (u := U) (U := U.calling g mk a) hW x3, x5.imp (fun z => va_Z.moved (u := U) (U := U.calling g mk a) hW z) (fun z => va_Z.moved (u := U) (U := U.calling g mk a) hW z), fun q hq => (x4 q hq).same rfl (u := U) (U := U.calling g mk a) rfl⟩
/-- behind a call: the caller goes on -/
theorem nh_back {K K' : nh_K} (hsh : K'.2.2.2.2.2 = K.2.2.2.2.2) {Q : Option Value → nh_S → Prop} {pc : Nat} {ls : List (Option Value)} {st : List Value} {p : Program} {l : Launch} {e : Env} {s : State} {m : MethodId} {args : Array Value} {below : List Frame} {meth : Method} {c : Code} {H : Heap} {locs : List Loc} {lsA : Array Slot} {D : va_G} {tA : FieldType → ClassId} {ad : Nat → Nat} {A : Nat → Prop} {Qc : Array Value → State → Outcome → State → Prop} {free : Addr → Prop} {a : Array Value} {st0 : List Value}
    (C : nh_C K p s m args meth c D tA ad A) (hS : va_S A s.heap H locs) (hl : nh_has ad lsA K.2.2.1 ls)
    (hq : ∀ (r : Option Value) (τ : nh_S) (t : State) (locs' : List Loc), Q r τ → va_P D vwCl (nh_ws K.2.2.2.2.2 tA ad τ) t.heap → va_D A (nh_ws K.2.2.2.2.2 tA ad τ) → va_S A s.heap t.heap locs' → s.WarmedH t.vm → Qc args s (.returned (r.map (nh_rv ad))) t) (hf : ∀ q, A q → free q)
    (hr : va_Run p l e K.2.2.2.2.1 s m args below meth c H locs 0 0 0 0 (F0 m pc lsA st0) (st.map (nh_rv ad)) (nh_Z K' D tA ad A (fun r τ => nh_E K (pc + 3) ls (r.toList ++ st) τ Q) a) A) :
    W p l e K.2.2.2.2.1 s m args below meth c H locs 0 0 (MQ below Qc args s 0 0 free) (F0 m pc lsA st0) := by
  intro T hT X
  obtain ⟨v, st₀, t, T', L, h0, X', hL, e1, e2, ⟨r, τ, hv, hE, hP1, hD1, hF⟩, go⟩ := hr T hT X
  cases hv
  rw [hsh] at hP1 hD1
  have hS1 : va_S A s.heap t.heap (locs ++ L) := by
    refine ⟨Nat.le_trans hS.1 (by rw [← h0]; exact hF.1), fun q h1 h2 => ?_, fun q hq => ?_⟩
    · rw [hF.2 q (by rw [h0]; exact Nat.lt_of_lt_of_le h1 hS.1) h2, h0]
      exact hS.2.1 q h1 h2
    · rcases List.mem_append.mp hq with h | h
      · exact hS.2.2 q h
      · exact hL q h
  have hk := hE p l e s m args below meth c t.heap (locs ++ L) lsA D tA ad A Qc free C hP1 hD1 hS1 hl hq hf
  obtain ⟨t2, a1, b1⟩ := hk T' e1 X'
  refine ⟨t2, go t2 ?_, b1⟩
  have e3 : (r.map (nh_rv ad)).toList ++ st.map (nh_rv ad) = (r.toList ++ st).map (nh_rv ad) := by
    cases r <;> rfl
  show Steps _ _ _ (T'.setTop { (F0 m pc lsA st0) with pc := pc + 3, stack := (r.map (nh_rv ad)).toList ++ st.map (nh_rv ad) }) t2
  rw [e3]
  exact a1
/-- the room of a callee in its caller's -/
def nh_rm (K K' : nh_K) : Prop := K'.2.2.2.2.1.frames + 1 ≤ K.2.2.2.2.1.frames ∧ 8 + (K'.2.2.1 + 11) + K'.2.2.2.2.1.locals ≤ K.2.2.2.2.1.locals
theorem nh_cats (ad : Nat → Nat) (st : List Value) : ((st.map (nh_rv ad)).map fun v => v.category).sum = (st.map fun v => v.category).sum := by
  rw [List.map_map]
  congr 1
  apply List.map_congr_left
  intro v _
  exact nh_rv_cat ad v
set_option maxHeartbeats 1000000 in
theorem nE_callV {K : nh_K} {pc : Nat} {ls : List (Option Value)} {st : List Value} {σ : nh_S} {Q : Option Value → nh_S → Prop} {b ci : Nat} {q : vw_C} {kds : List (Option (Option Nat))} {K' : nh_K} {y : MethodName} {n idx : Nat} {st0 As : List Value} (hy : nh_Y K' y n) (hrm : nh_rm K K') (hsh : K'.2.2.2.2.2 = K.2.2.2.2.2) (hcl : vwCl[ci]? = some q) (hrc : K.2.2.2.2.2[b]? = some (.inr (ci, kds))) (hcq : q.1 = y.cls) (hw : Cond.methodLink K.1 idx y ∈ nh_tb ∧ Cond.instanceMethod y ∈ nh_tb ∧ Cond.selects y.cls y y ∈ nh_tb) (hd : decode K.2.1 pc = .ok (.invokevirtual idx, 3)) (hs : st0 = As.reverse ++ .ref b :: st) (hn : As.length = n) (h8 : (st.map fun v => v.category).sum ≤ 8) (hfit : ((Value.ref b :: As).flatMap nh_e1).length ≤ K'.2.2.1)
    (kk : nh_E K' 0 (nh_en K'.2.2.1 (.ref b :: As)) [] σ (fun r τ => nh_E K (pc + 3) ls (r.toList ++ st) τ Q)) : nh_E K pc ls st0 σ Q := by
  intro p l e s m args below meth c H locs lsA D tA ad A Qc free C hP hD hS hl hq hf
  have hM := nh_met l D tA ad A hy hfit kk
  have hcb : ∀ {own : String}, (Cond.methodLink own idx y).before args s = true → CallB K.2.2.2.2.1 s args own idx y K'.2.1 K'.2.2.1 K'.2.2.2.1 (nh_wd K' y) K'.2.2.2.2.1 0 0 n := fun hl2 => callB_of n C.2.2.2.2.2.2.1 (nh_wd_good (K := K) hy) rfl hy.2.2.2.2.2.1 hy.2.2.2.2.2.2 (C.2.2.2.2.2.2.1 _ hy.2.2.1) hl2 hy.2.2.2.2.1 hrm
  refine nh_back hsh C hS hl hq hf (va_runV (b := ad b) (As := As.map (nh_rv ad)) (rest := st.map (nh_rv ad)) (Ts := nh_tb) ⟨C.1, C.2.1, C.2.2.1, C.2.2.2.2.2.1, C.2.2.2.2.2.2.1⟩ hM ⟨hcb (C.2.2.2.2.2.2.1 _ hw.1), C.2.2.2.2.2.2.1 _ hw.2.1, C.2.2.2.2.2.2.1 _ hw.2.2⟩ ⟨nh_blind K' D tA ad A σ (nh_rv ad (.ref b) :: As.map (nh_rv ad)), by rw [← hcq]; exact va_recv C.2.2.2.2.2.2.2.1 hP hcl (nh_ws_at hrc tA ad σ), fun U hU hW => ⟨rfl, by rw [hU, hsh]; exact hP, by rw [hsh]; exact hD, va_K.moved hW.alike C.2.2.2.2.2.2.2.1, fun q hq => C.2.2.2.2.2.2.2.2.1 q (Nat.le_trans hS.1 (by rw [← hU]; exact hq)), C.2.2.2.2.2.2.2.2.2.call hS hU hW⟩⟩ rfl (by rw [List.length_map]; exact hn) hl.1 (by show st0.map (nh_rv ad) = _; rw [hs]; simp [List.map_append, List.map_reverse, nh_rv]) (lv_room (by rw [nh_cats]; exact h8)) hd ⟨Nat.zero_le _, Nat.zero_le _⟩)
set_option maxHeartbeats 1000000 in
theorem nE_callT {K : nh_K} {pc : Nat} {ls : List (Option Value)} {st : List Value} {σ : nh_S} {Q : Option Value → nh_S → Prop} {t : Nat} {K' : nh_K} {y : MethodName} {n idx : Nat} {st0 As : List Value} (ht : t < 5) (hy : nh_Y K' y n) (hrm : nh_rm K K') (hsh : K'.2.2.2.2.2 = K.2.2.2.2.2) (hcq : y.cls = "java/lang/String") (hw : Cond.methodLink K.1 idx y ∈ nh_tb ∧ Cond.instanceMethod y ∈ nh_tb ∧ Cond.selects y.cls y y ∈ nh_tb) (hd : decode K.2.1 pc = .ok (.invokevirtual idx, 3)) (hs : st0 = As.reverse ++ .ref (900 + t) :: st) (hn : As.length = n) (h8 : (st.map fun v => v.category).sum ≤ 8) (hfit : ((Value.ref (900 + t) :: As).flatMap nh_e1).length ≤ K'.2.2.1)
    (kk : nh_E K' 0 (nh_en K'.2.2.1 (.ref (900 + t) :: As)) [] σ (fun r τ => nh_E K (pc + 3) ls (r.toList ++ st) τ Q)) : nh_E K pc ls st0 σ Q := by
  intro p l e s m args below meth c H locs lsA D tA ad A Qc free C hP hD hS hl hq hf
  have hM := nh_met l D tA ad A hy hfit kk
  have hcb : ∀ {own : String}, (Cond.methodLink own idx y).before args s = true → CallB K.2.2.2.2.1 s args own idx y K'.2.1 K'.2.2.1 K'.2.2.2.1 (nh_wd K' y) K'.2.2.2.2.1 0 0 n := fun hl2 => callB_of n C.2.2.2.2.2.2.1 (nh_wd_good (K := K) hy) rfl hy.2.2.2.2.2.1 hy.2.2.2.2.2.2 (C.2.2.2.2.2.2.1 _ hy.2.2.1) hl2 hy.2.2.2.2.1 hrm
  refine nh_back hsh C hS hl hq hf (va_runV (b := ad (900 + t)) (C := y.cls) (As := As.map (nh_rv ad)) (rest := st.map (nh_rv ad)) (Ts := nh_tb) ⟨C.1, C.2.1, C.2.2.1, C.2.2.2.2.2.1, C.2.2.2.2.2.2.1⟩ hM ⟨hcb (C.2.2.2.2.2.2.1 _ hw.1), C.2.2.2.2.2.2.1 _ hw.2.1, C.2.2.2.2.2.2.1 _ hw.2.2⟩ ⟨nh_blind K' D tA ad A σ (nh_rv ad (.ref (900 + t)) :: As.map (nh_rv ad)), by rw [hcq]; exact vk_recv (adK := fun i => ad (900 + i)) (i := t) C.2.2.2.2.2.2.2.2.2.1 ht hS, fun U hU hW => ⟨rfl, by rw [hU, hsh]; exact hP, by rw [hsh]; exact hD, va_K.moved hW.alike C.2.2.2.2.2.2.2.1, fun q hq => C.2.2.2.2.2.2.2.2.1 q (Nat.le_trans hS.1 (by rw [← hU]; exact hq)), C.2.2.2.2.2.2.2.2.2.call hS hU hW⟩⟩ rfl (by rw [List.length_map]; exact hn) hl.1 (by show st0.map (nh_rv ad) = _; rw [hs]; simp [List.map_append, List.map_reverse, nh_rv]) (lv_room (by rw [nh_cats]; exact h8)) hd ⟨Nat.zero_le _, Nat.zero_le _⟩)
set_option maxHeartbeats 1000000 in
theorem nE_callS {K : nh_K} {pc : Nat} {ls : List (Option Value)} {st : List Value} {σ : nh_S} {Q : Option Value → nh_S → Prop} {K' : nh_K} {y : MethodName} {n idx : Nat} {st0 As : List Value} (hy : nh_Y K' y n) (hrm : nh_rm K K') (hsh : K'.2.2.2.2.2 = K.2.2.2.2.2) (hw : Cond.methodLink K.1 idx y ∈ nh_tb ∧ Cond.static y ∈ nh_tb) (hd : decode K.2.1 pc = .ok (.invokestatic idx, 3)) (hs : st0 = As.reverse ++ st) (hn : As.length = n) (h8 : (st.map fun v => v.category).sum ≤ 8) (hfit : (As.flatMap nh_e1).length ≤ K'.2.2.1)
    (kk : nh_E K' 0 (nh_en K'.2.2.1 As) [] σ (fun r τ => nh_E K (pc + 3) ls (r.toList ++ st) τ Q)) : nh_E K pc ls st0 σ Q := by
  intro p l e s m args below meth c H locs lsA D tA ad A Qc free C hP hD hS hl hq hf
  have hM := nh_met l D tA ad A hy hfit kk
  have hcb : ∀ {own : String}, (Cond.methodLink own idx y).before args s = true → CallB K.2.2.2.2.1 s args own idx y K'.2.1 K'.2.2.1 K'.2.2.2.1 (nh_wd K' y) K'.2.2.2.2.1 0 0 n := fun hl2 => callB_of n C.2.2.2.2.2.2.1 (nh_wd_good (K := K) hy) rfl hy.2.2.2.2.2.1 hy.2.2.2.2.2.2 (C.2.2.2.2.2.2.1 _ hy.2.2.1) hl2 hy.2.2.2.2.1 hrm
  refine nh_back hsh C hS hl hq hf (va_runS (As := As.map (nh_rv ad)) (rest := st.map (nh_rv ad)) (Ts := nh_tb) ⟨C.1, C.2.1, C.2.2.1, C.2.2.2.2.2.1, C.2.2.2.2.2.2.1⟩ hM ⟨hcb (C.2.2.2.2.2.2.1 _ hw.1), C.2.2.2.2.2.2.1 _ hw.2⟩ ⟨nh_blind K' D tA ad A σ (As.map (nh_rv ad)), fun U hU hW => ⟨rfl, by rw [hU, hsh]; exact hP, by rw [hsh]; exact hD, va_K.moved hW.alike C.2.2.2.2.2.2.2.1, fun q hq => C.2.2.2.2.2.2.2.2.1 q (Nat.le_trans hS.1 (by rw [← hU]; exact hq)), C.2.2.2.2.2.2.2.2.2.call hS hU hW⟩⟩ rfl (by rw [List.length_map]; exact hn) hl.1 (by show st0.map (nh_rv ad) = _; rw [hs]; simp [List.map_append, List.map_reverse, nh_rv]) (lv_room (by rw [nh_cats]; exact h8)) hd ⟨Nat.zero_le _, Nat.zero_le _⟩)
set_option maxHeartbeats 1000000 in
theorem nE_callN {K : nh_K} {pc : Nat} {ls : List (Option Value)} {st : List Value} {σ : nh_S} {Q : Option Value → nh_S → Prop} {K' : nh_K} {y : MethodName} {n idx : Nat} {st0 As : List Value} (hy : nh_Y K' y n) (hrm : nh_rm K K') (hsh : K'.2.2.2.2.2 = K.2.2.2.2.2) {host : String} (hw : (K.1, idx, y, host) ∈ nh_nst ∧ Cond.static y ∈ nh_tb) (hd : decode K.2.1 pc = .ok (.invokestatic idx, 3)) (hs : st0 = As.reverse ++ st) (hn : As.length = n) (h8 : (st.map fun v => v.category).sum ≤ 8) (hfit : (As.flatMap nh_e1).length ≤ K'.2.2.1)
    (kk : nh_E K' 0 (nh_en K'.2.2.1 As) [] σ (fun r τ => nh_E K (pc + 3) ls (r.toList ++ st) τ Q)) : nh_E K pc ls st0 σ Q := by
  intro p l e s m args below meth c H locs lsA D tA ad A Qc free C hP hD hS hl hq hf
  have hM := nh_met l D tA ad A hy hfit kk
  have hcb : ∀ {own : String}, (Cond.methodLink own idx y).before args s = true → CallB K.2.2.2.2.1 s args own idx y K'.2.1 K'.2.2.1 K'.2.2.2.1 (nh_wd K' y) K'.2.2.2.2.1 0 0 n := fun hl2 => callB_of n C.2.2.2.2.2.2.1 (nh_wd_good (K := K) hy) rfl hy.2.2.2.2.2.1 hy.2.2.2.2.2.2 (C.2.2.2.2.2.2.1 _ hy.2.2.1) hl2 hy.2.2.2.2.1 hrm
  refine nh_back hsh C hS hl hq hf (va_runSN (As := As.map (nh_rv ad)) (rest := st.map (nh_rv ad)) (Ts := nh_tb) ⟨C.1, C.2.1, C.2.2.1, C.2.2.2.2.2.1, C.2.2.2.2.2.2.1⟩ hM ⟨va_cnB (host := host) n C.2.2.2.2.2.2.1 (nh_wd_good (K := K) hy) rfl hy.2.2.2.2.2.1 hy.2.2.2.2.2.2 (C.2.2.2.2.2.2.2.2.2.2.2.2.2 _ hw.1) (C.2.2.2.2.2.2.1 _ hy.2.2.1) hy.2.2.2.2.1 hrm, C.2.2.2.2.2.2.1 _ hw.2, trivial⟩ ⟨nh_blind K' D tA ad A σ (As.map (nh_rv ad)), fun U hU hW => ⟨rfl, by rw [hU, hsh]; exact hP, by rw [hsh]; exact hD, va_K.moved hW.alike C.2.2.2.2.2.2.2.1, fun q hq => C.2.2.2.2.2.2.2.2.1 q (Nat.le_trans hS.1 (by rw [← hU]; exact hq)), C.2.2.2.2.2.2.2.2.2.call hS hU hW⟩⟩ rfl (by rw [List.length_map]; exact hn) hl.1 (by show st0.map (nh_rv ad) = _; rw [hs]; simp [List.map_append, List.map_reverse, nh_rv]) (lv_room (by rw [nh_cats]; exact h8)) hd ⟨Nat.zero_le _, Nat.zero_le _⟩)
theorem nE_mmax {K : nh_K} {pc : Nat} {ls : List (Option Value)} {st : List Value} {σ : nh_S} {Q : Option Value → nh_S → Prop} {x y : Int32} {idx : Nat} (hw : Cond.methodLink K.1 idx Lib.Math.max.name ∈ nh_tb ∧ Cond.static Lib.Math.max.name ∈ nh_tb ∧ Cond.initialized "java/lang/Math" ∈ nh_tb ∧ Cond.code Lib.Math.max.name Lib.Math.max.code 2 (some .int) ∈ nh_tb) (hrm : 1 ≤ K.2.2.2.2.1.frames ∧ (st.map fun v => v.category).sum + 13 ≤ K.2.2.2.2.1.locals) (hd : decode K.2.1 pc = .ok (.invokestatic idx, 3)) (kk : nh_E K (pc + 3) ls (.int (if x < y then y else x) :: st) σ Q) : nh_E K pc ls (.int y :: .int x :: st) σ Q := by
  intro p l e s m args below meth c H locs lsA D tA ad A Qc free C hP hD hS hl hq hf
  exact va_mmax C.1 C.2.1 (by rw [hl.1]; exact C.2.2.1) C.2.2.2.2.2.1 (C.2.2.2.2.2.2.1 _ hw.1) (C.2.2.2.2.2.2.1 _ hw.2.1) (C.2.2.2.2.2.2.1 _ hw.2.2.1) (C.2.2.2.2.2.2.1 _ hw.2.2.2) hrm.1 (by rw [nh_cats]; exact hrm.2) (Nat.zero_le _) (Nat.zero_le _) hd (kk p l e s m args below meth c H locs lsA D tA ad A Qc free C hP hD hS hl hq hf)
theorem nE_mmin {K : nh_K} {pc : Nat} {ls : List (Option Value)} {st : List Value} {σ : nh_S} {Q : Option Value → nh_S → Prop} {x y : Int32} {idx : Nat} (hw : Cond.methodLink K.1 idx Lib.Math.min.name ∈ nh_tb ∧ Cond.static Lib.Math.min.name ∈ nh_tb ∧ Cond.initialized "java/lang/Math" ∈ nh_tb ∧ Cond.code Lib.Math.min.name Lib.Math.min.code 2 (some .int) ∈ nh_tb) (hrm : 1 ≤ K.2.2.2.2.1.frames ∧ (st.map fun v => v.category).sum + 13 ≤ K.2.2.2.2.1.locals) (hd : decode K.2.1 pc = .ok (.invokestatic idx, 3)) (kk : nh_E K (pc + 3) ls (.int (if y < x then y else x) :: st) σ Q) : nh_E K pc ls (.int y :: .int x :: st) σ Q := by
  intro p l e s m args below meth c H locs lsA D tA ad A Qc free C hP hD hS hl hq hf
  exact va_mmin C.1 C.2.1 (by rw [hl.1]; exact C.2.2.1) C.2.2.2.2.2.1 (C.2.2.2.2.2.2.1 _ hw.1) (C.2.2.2.2.2.2.1 _ hw.2.1) (C.2.2.2.2.2.2.1 _ hw.2.2.1) (C.2.2.2.2.2.2.1 _ hw.2.2.2) hrm.1 (by rw [nh_cats]; exact hrm.2) (Nat.zero_le _) (Nat.zero_le _) hd (kk p l e s m args below meth c H locs lsA D tA ad A Qc free C hP hD hS hl hq hf)
theorem nE_acopy {K : nh_K} {pc : Nat} {ls : List (Option Value)} {st : List Value} {σ : nh_S} {Q : Option Value → nh_S → Prop} {k0 k1 n0 n1 idx : Nat} {sp dp n : Int32} (hw : Cond.methodLink K.1 idx arraycopyName ∈ nh_tb ∧ Cond.native arraycopyName ∈ nh_tb ∧ Cond.static arraycopyName ∈ nh_tb ∧ Cond.initialized "java/lang/System" ∈ nh_tb) (h0 : K.2.2.2.2.2[k0]? = some (.inl (.int, n0, none))) (h1 : K.2.2.2.2.2[k1]? = some (.inl (.int, n1, none))) (hrm : 1 ≤ K.2.2.2.2.1.frames ∧ (st.map fun v => v.category).sum + (nativeFrameWords "java/lang/System" "arraycopy" 5 + 11) ≤ K.2.2.2.2.1.locals) (hd : decode K.2.1 pc = .ok (.invokestatic idx, 3))
    (kk : (¬ sp < 0 ∧ ¬ dp < 0 ∧ ¬ n < 0 ∧ sp.toNatClampNeg + n.toNatClampNeg ≤ n0 ∧ dp.toNatClampNeg + n.toNatClampNeg ≤ n1) ∧ nh_E K (pc + 3) ls st (nh_sa σ k1 (va_cpy (σ.2.1 k0) (σ.2.1 k1) sp.toNatClampNeg dp.toNatClampNeg n.toNatClampNeg)) Q) : nh_E K pc ls (.int n :: .int dp :: .ref k1 :: .int sp :: .ref k0 :: st) σ Q := by
  intro p l e s m args below meth c H locs lsA D tA ad A Qc free C hP hD hS hl hq hf
  obtain ⟨⟨z1, z2, z3, z4, z5⟩, kk⟩ := kk
  refine va_copyi (f := σ.2.1 k0) (g := σ.2.1 k1) (ty := .int) C.1 C.2.1 (by rw [hl.1]; exact C.2.2.1) C.2.2.2.2.2.1 (C.2.2.2.2.2.2.1 _ hw.1) (C.2.2.2.2.2.2.1 _ hw.2.1) (C.2.2.2.2.2.2.1 _ hw.2.2.1) (C.2.2.2.2.2.2.1 _ hw.2.2.2) C.2.2.2.2.2.2.2.1 hP hD hS k0 k1 0 0 (nh_ws_at h0 tA ad σ) (nh_ws_at h1 tA ad σ) rfl rfl rfl z1 z2 z3 z4 z5 (fun _ _ => rfl) hrm.1 (by rw [nh_cats]; exact hrm.2) hd (fun H1 locs1 hP1 hD1 hS1 => ?_)
  rw [nh_ws_sa h1] at hP1 hD1
  exact kk p l e s m args below meth c H1 locs1 lsA D tA ad A Qc free C hP1 hD1 hS1 hl hq hf
theorem nE_getSv {K : nh_K} {pc : Nat} {ls : List (Option Value)} {st : List Value} {σ : nh_S} {Q : Option Value → nh_S → Prop} {t idx : Nat} (ht : t < 5) (hw : Cond.fieldLink K.1 idx "java/lang/String" "value" "[B" ∈ nh_tb) (hd : decode K.2.1 pc = .ok (.getfield idx, 3)) (kk : nh_E K (pc + 3) ls (.ref (910 + t) :: st) σ Q) : nh_E K pc ls (.ref (900 + t) :: st) σ Q := by
  intro p l e s m args below meth c H locs lsA D tA ad A Qc free C hP hD hS hl hq hf
  exact vk_getf (v := .ref (ad (910 + t))) C.1 C.2.1 (C.2.2.2.2.2.2.2.2.2.1.1 t ht).2.2.1 hS C.2.2.2.2.2.1 (C.2.2.2.2.2.2.1 _ hw) (fun _ h => h) hd (kk p l e s m args below meth c H locs lsA D tA ad A Qc free C hP hD hS hl hq hf)
theorem nE_getSc {K : nh_K} {pc : Nat} {ls : List (Option Value)} {st : List Value} {σ : nh_S} {Q : Option Value → nh_S → Prop} {t idx : Nat} (ht : t < 5) (hw : Cond.fieldLink K.1 idx "java/lang/String" "coder" "B" ∈ nh_tb) (hd : decode K.2.1 pc = .ok (.getfield idx, 3)) (kk : nh_E K (pc + 3) ls (.int 0 :: st) σ Q) : nh_E K pc ls (.ref (900 + t) :: st) σ Q := by
  intro p l e s m args below meth c H locs lsA D tA ad A Qc free C hP hD hS hl hq hf
  exact vk_getf (v := .int 0) C.1 C.2.1 (C.2.2.2.2.2.2.2.2.2.1.1 t ht).2.1 hS C.2.2.2.2.2.1 (C.2.2.2.2.2.2.1 _ hw) (fun _ h => h) hd (kk p l e s m args below meth c H locs lsA D tA ad A Qc free C hP hD hS hl hq hf)
theorem nE_alenS {K : nh_K} {pc : Nat} {ls : List (Option Value)} {st : List Value} {σ : nh_S} {Q : Option Value → nh_S → Prop} {t : Nat} (ht : t < 5) (hd : decode K.2.1 pc = .ok (.arraylength, 1)) (kk : nh_E K (pc + 1) ls (.int (Int32.ofNat (nh_len.getD t 0)) :: st) σ Q) : nh_E K pc ls (.ref (910 + t) :: st) σ Q := by
  intro p l e s m args below meth c H locs lsA D tA ad A Qc free C hP hD hS hl hq hf
  exact va_tlen C.1 C.2.1 (C.2.2.2.2.2.2.2.2.2.1.1 t ht).2.2.2 hS rfl hd (kk p l e s m args below meth c H locs lsA D tA ad A Qc free C hP hD hS hl hq hf)
theorem nE_baldS {K : nh_K} {pc : Nat} {ls : List (Option Value)} {st : List Value} {σ : nh_S} {Q : Option Value → nh_S → Prop} {t : Nat} {i : Int32} (ht : t < 5) (hi : vp_in i (nh_len.getD t 0)) (hd : decode K.2.1 pc = .ok (.baload, 1)) (kk : nh_E K (pc + 1) ls (.int ((nh_byt.getD t []).getD i.toNatClampNeg 0) :: st) σ Q) : nh_E K pc ls (.int i :: .ref (910 + t) :: st) σ Q := by
  intro p l e s m args below meth c H locs lsA D tA ad A Qc free C hP hD hS hl hq hf
  exact va_tb C.1 C.2.1 (C.2.2.2.2.2.2.2.2.2.1.1 t ht).2.2.2 hS hi rfl hd (kk p l e s m args below meth c H locs lsA D tA ad A Qc free C hP hD hS hl hq hf)
theorem nE_getsC {K : nh_K} {pc : Nat} {ls : List (Option Value)} {st : List Value} {σ : nh_S} {Q : Option Value → nh_S → Prop} {idx : Nat} (hw : Cond.fieldLink K.1 idx "java/lang/String" "COMPACT_STRINGS" "Z" ∈ nh_tb) (hd : decode K.2.1 pc = .ok (.getstatic idx, 3)) (kk : nh_E K (pc + 3) ls (.int 1 :: st) σ Q) : nh_E K pc ls st σ Q := by
  intro p l e s m args below meth c H locs lsA D tA ad A Qc free C hP hD hS hl hq hf
  exact va_gets C.1 C.2.1 C.2.2.2.2.2.2.2.2.2.2.2.1 hS C.2.2.2.2.2.1 (C.2.2.2.2.2.2.1 _ hw) (fun _ h => h) hd (kk p l e s m args below meth c H locs lsA D tA ad A Qc free C hP hD hS hl hq hf)
theorem nE_getsF {K : nh_K} {pc : Nat} {ls : List (Option Value)} {st : List Value} {σ : nh_S} {Q : Option Value → nh_S → Prop} {idx : Nat} (hw : Cond.fieldLink K.1 idx "jdk/internal/util/Preconditions" "SIOOBE_FORMATTER" "Ljava/util/function/BiFunction;" ∈ nh_tb) (hd : decode K.2.1 pc = .ok (.getstatic idx, 3)) (kk : ∀ v : Value, v = .null ∨ v = .ref 920 → nh_E K (pc + 3) ls (v :: st) σ Q) : nh_E K pc ls st σ Q := by
  intro p l e s m args below meth c H locs lsA D tA ad A Qc free C hP hD hS hl hq hf
  rcases C.2.2.2.2.2.2.2.2.2.2.2.2.1 with z | z
  · exact va_gets C.1 C.2.1 z hS C.2.2.2.2.2.1 (C.2.2.2.2.2.2.1 _ hw) (fun _ h => h) hd (kk .null (Or.inl rfl) p l e s m args below meth c H locs lsA D tA ad A Qc free C hP hD hS hl hq hf)
  · exact va_gets C.1 C.2.1 z hS C.2.2.2.2.2.1 (C.2.2.2.2.2.2.1 _ hw) (fun _ h => h) hd (kk (.ref 920) (Or.inr rfl) p l e s m args below meth c H locs lsA D tA ad A Qc free C hP hD hS hl hq hf)
