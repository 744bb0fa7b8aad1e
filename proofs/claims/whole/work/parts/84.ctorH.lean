/-! THE CLASS's own constructor -/
theorem nh_X_cong {ad ad' : Nat → Nat} {A : Nat → Prop} {s : State} (h : ∀ k, 900 ≤ k → ad' k = ad k) (hX : nh_X ad A s) : nh_X ad' A s := by
  obtain ⟨x1, x2, x3, x5, x4⟩ := hX
  have e1 : (fun i => ad' (900 + i)) = (fun i => ad (900 + i)) := funext fun i => h _ (by omega)
  have e2 : (fun i => ad' (910 + i)) = (fun i => ad (910 + i)) := funext fun i => h _ (by omega)
  refine ⟨by rw [e1, e2]; exact x1, fun q hq => by rw [h _ (by omega)]; exact x2 q hq, x3, by rw [h _ (by omega)]; exact x5, x4⟩
set_option maxHeartbeats 1000000 in
theorem ng_tail {K : nh_K} {D : va_G} {tA : FieldType → ClassId} {ad : Nat → Nat} {A : Nat → Prop} {pc : Nat} {ls : List (Option Value)} {st : List Value} {pre : va_W} {a ci : Nat} {fs : List Value} {post : va_W} {kc ks : Nat} {Q : va_W → Prop} {K' : nh_K} {y : MethodName} {idx b ci' : Nat} {kds : List (Option (Option Nat))} {q0 : vw_C} {ad' : Nat → Nat} {σ : nh_S} (hy : nh_Y K' y 0) (hrm : nh_rm K K') (had : ∀ k, 900 ≤ k → ad' k = ad k) (hto : ∀ H, va_P D vwCl (pre ++ (a, .inr (ci, fs)) :: post) H → va_P D vwCl (nh_ws K'.2.2.2.2.2 tA ad' σ) H) (htoD : va_D A (pre ++ (a, .inr (ci, fs)) :: post) → va_D A (nh_ws K'.2.2.2.2.2 tA ad' σ)) (hb : ad' b = a) (hcl : vwCl[ci']? = some q0) (hrc : K'.2.2.2.2.2[b]? = some (.inr (ci', kds))) (hcq : q0.1 = y.cls) (hw : Cond.methodLink K.1 idx y ∈ nh_tb ∧ Cond.instanceMethod y ∈ nh_tb ∧ Cond.selects y.cls y y ∈ nh_tb) (hd : decode K.2.1 pc = .ok (.invokevirtual idx, 3)) (hd2 : decode K.2.1 (pc + 3) = .ok (.return_, 1)) (hr0 : K.2.2.2.1 = none) (hk : kc ≤ K.2.2.2.2.1.cells ∧ ks ≤ K.2.2.2.2.1.slots) (hfit : ([Value.ref b].flatMap nh_e1).length ≤ K'.2.2.1)
    (kk : nh_E K' 0 (nh_en K'.2.2.1 [.ref b]) [] σ (fun r τ => r = none ∧ Q (nh_ws K'.2.2.2.2.2 tA ad' τ))) : ng_E K D tA ad A pc ls [.ref a] pre a ci fs post kc ks Q := by
  intro p l e s m args below meth c H locs lsA Qc free C hin hX hP hD hS hl hq hf
  have hM := nh_met l D tA ad' A hy hfit kk
  have hX' : nh_X ad' A s := nh_X_cong had C.2.2.2.2.2.2.2.2.2
  have hPw := hto H hP
  have hDw := htoD hD
  have hcb : CallB K.2.2.2.2.1 s args K.1 idx y K'.2.1 K'.2.2.1 K'.2.2.2.1 (nh_wd K' y) K'.2.2.2.2.1 0 0 0 := callB_of 0 C.2.2.2.2.2.2.1 (nh_wd_good (K := K) hy) rfl hy.2.2.2.2.2.1 hy.2.2.2.2.2.2 (C.2.2.2.2.2.2.1 _ hy.2.2.1) (C.2.2.2.2.2.2.1 _ hw.1) hy.2.2.2.2.1 hrm
  have hrun := va_runV (e := e) (below := below) (meth := meth) (b := ad' b) (C := y.cls) (As := []) (rest := []) (Ts := nh_tb) (g := F0 m pc lsA [.ref a]) (H := H) (locs := locs) (cells := kc) (slots := ks) ⟨C.1, C.2.1, C.2.2.1, C.2.2.2.2.2.1, C.2.2.2.2.2.2.1⟩ hM ⟨hcb, C.2.2.2.2.2.2.1 _ hw.2.1, C.2.2.2.2.2.2.1 _ hw.2.2⟩ ⟨nh_blind K' D tA ad' A σ [nh_rv ad' (.ref b)], by rw [← hcq]; exact va_recv C.2.2.2.2.2.2.2.1 hPw hcl (nh_ws_at hrc tA ad' σ), fun U hU hW => ⟨rfl, by rw [hU]; exact hPw, hDw, va_K.moved hW.alike C.2.2.2.2.2.2.2.1, fun q hq => C.2.2.2.2.2.2.2.2.1 q (Nat.le_trans hS.1 (by rw [← hU]; exact hq)), hX'.call hS hU hW⟩⟩ rfl rfl hl.1 (by rw [hb]; rfl) (lv_room (Nat.zero_le _)) hd ⟨hk.1, hk.2⟩
  intro T hT X
  obtain ⟨v, st₀, t, T', L, h0, X', hL, e1, e2, ⟨r, τ, hv, ⟨hr1, hQτ⟩, hP1, hD1, hF⟩, go⟩ := hrun T hT X
  subst hr1
  cases hv
  have hS1 : va_S A s.heap t.heap (locs ++ L) := by
    refine ⟨Nat.le_trans hS.1 (by rw [← h0]; exact hF.1), fun q h1 h2 => ?_, fun q hq => ?_⟩
    · rw [hF.2 q (by rw [h0]; exact Nat.lt_of_lt_of_le h1 hS.1) h2, h0]
      exact hS.2.1 q h1 h2
    · rcases List.mem_append.mp hq with h | h
      · exact hS.2.2 q h
      · exact hL q h
  have hW2 : W p l e K.2.2.2.2.1 s m args below meth c t.heap (locs ++ L) kc ks (MQ below Qc args s K.2.2.2.2.1.cells K.2.2.2.2.1.slots free) (F0 m (pc + 3) lsA []) := by
    refine W.widen hk.1 hk.2 ?_
    exact W.vret C.1 C.2.1 (by rw [C.2.2.2.1, hr0]) (fun t' ht hW => hq _ t' (locs ++ L) hQτ (by rw [ht]; exact hP1) hD1 (by rw [ht]; exact hS1) hW) (fun q h1 => hf _ (hS1.2.2 q h1)) hd2 C.2.2.2.2.1
  obtain ⟨t2, a1, b1⟩ := hW2 T' e1 X'
  exact ⟨t2, go t2 a1, b1⟩
/-- addresses of a side's cells, and of the rest -/
def nh_adL (n : Nat) (L : List Nat) (ad : Nat → Nat) : Nat → Nat := fun k => if k < n then L.getD k 0 else ad k
/-- the class's numbers as its fields begin -/
def s0C : nh_S := (fun k j => if (k = 1 ∧ j = 4) ∨ ((k = 17 ∨ k = 21 ∨ k = 98) ∧ j = 3) then -1 else 0, fun _ _ => 0, fun k j => if k = 0 ∧ j = 11 then 33 else if k = 0 ∧ j = 12 then 55 else if k = 0 ∧ j = 13 then 77 else if k = 0 ∧ j = 14 then 80 else 0)
def s0R : nh_S := (fun _ j => if j = 21 then -1 else 0, fun _ _ => 0, fun _ _ => 0)
/-- a world, cell by cell -/
def nh_fl (ad : Nat → Nat) (σ : nh_S) (k : Nat) : Nat → List (Option (Option Nat)) → List Value
  | _, [] => []
  | j, kd :: kds => nh_rv ad (nh_av σ k j kd) :: nh_fl ad σ k (j + 1) kds
theorem nh_fl_eq (ad : Nat → Nat) (σ : nh_S) (k : Nat) : ∀ (kds : List (Option (Option Nat))) (b : Nat), kds.mapIdx (fun j kd => nh_rv ad (nh_av σ k (b + j) kd)) = nh_fl ad σ k b kds
  | [], b => rfl
  | kd :: kds, b => by
    rw [List.mapIdx_cons, nh_fl, ← nh_fl_eq ad σ k kds (b + 1)]
    congr 1
    congr 1
    funext j kd
    rw [show b + (j + 1) = b + 1 + j by omega]
def nh_cl (tA : FieldType → ClassId) (ad : Nat → Nat) (σ : nh_S) (k : Nat) (q : nh_Q) : va_E := match q with
  | .inl (ty, n, none) => .inl (tA ty, n, .inl (σ.2.1 k))
  | .inl (ty, n, some b) => .inl (tA ty, n, .inr (.inr (.inr (.inr (fun i => if i < n then some (ad (b + i)) else none)))))
  | .inr (ci, kds) => .inr (ci, nh_fl ad σ k 0 kds)
theorem nh_cl_eq (tA : FieldType → ClassId) (ad : Nat → Nat) (σ : nh_S) (k : Nat) (q : nh_Q) : nh_ce tA ad σ k q = nh_cl tA ad σ k q := by
  rcases q with ⟨ty, n, _ | b⟩ | ⟨ci, kds⟩
  · rfl
  · rfl
  · show Sum.inr (ci, nh_fs ad σ k kds) = Sum.inr (ci, nh_fl ad σ k 0 kds)
    rw [← nh_fl_eq ad σ k kds 0]
    unfold nh_fs
    congr 3
    funext j kd
    rw [Nat.zero_add]
def nh_wl (tA : FieldType → ClassId) (ad : Nat → Nat) (σ : nh_S) : Nat → List nh_Q → va_W
  | _, [] => []
  | k, q :: sh => (ad k, nh_cl tA ad σ k q) :: nh_wl tA ad σ (k + 1) sh
theorem nh_wl_eq (tA : FieldType → ClassId) (ad : Nat → Nat) (σ : nh_S) : ∀ (sh : List nh_Q) (b : Nat), sh.mapIdx (fun k q => (ad (b + k), nh_ce tA ad σ (b + k) q)) = nh_wl tA ad σ b sh
  | [], b => rfl
  | q :: sh, b => by
    rw [List.mapIdx_cons, nh_wl, ← nh_wl_eq tA ad σ sh (b + 1), nh_cl_eq]
    congr 1
    congr 1
    funext j kd
    rw [show b + (j + 1) = b + 1 + j by omega]
theorem nh_ws_wl (sh : List nh_Q) (tA : FieldType → ClassId) (ad : Nat → Nat) (σ : nh_S) : nh_ws sh tA ad σ = nh_wl tA ad σ 0 sh := by
  rw [← nh_wl_eq tA ad σ sh 0]
  unfold nh_ws
  congr 1
  funext k q
  rw [Nat.zero_add]
set_option maxRecDepth 20000 in
set_option maxHeartbeats 4000000 in
theorem wR_all (tA : FieldType → ClassId) (ad : Nat → Nat) (q q1 q2 q3 q4 q5 q6 q7 q8 q9 q10 q11 q12 q13 q14 q15 q16 q17 q18 q19 q20 q21 q22 q23 q24 q25 q26 : Nat) : nh_ws shR tA (nh_adL 27 [q, q1, q2, q3, q4, q5, q6, q7, q8, q9, q10, q11, q12, q13, q14, q15, q16, q17, q18, q19, q20, q21, q22, q23, q24, q25, q26] ad) s0R = [(q, .inr (9, [.ref q1, .ref q2, .ref q3, .ref q4, .ref q5, .ref q6, .ref q7, .ref q8, .ref q9, .ref q10, .ref q11, .int 0, .int 0, .ref q12, .int 0, .ref q13, .int 0, .int 0, .int 0, .int 0, .int 0, .int (-1), .ref q14, .ref q15, .ref q16, .ref q17, .int 0, .ref q18, .ref q19, .ref q20, .ref q21, .int 0, .ref q22, .ref q23, .int 0, .ref q24, .ref q25, .int 0, .ref q26])), (q1, .inl (tA .int, 78, .inl (fun _ => 0))), (q2, .inl (tA .boolean, 2, .inl (fun _ => 0))), (q3, .inl (tA .int, 108, .inl (fun _ => 0))), (q4, .inl (tA .int, 162, .inl (fun _ => 0))), (q5, .inl (tA .int, 24, .inl (fun _ => 0))), (q6, .inl (tA .int, 24, .inl (fun _ => 0))), (q7, .inl (tA .int, 24, .inl (fun _ => 0))), (q8, .inl (tA .int, 24, .inl (fun _ => 0))), (q9, .inl (tA .int, 4, .inl (fun _ => 0))), (q10, .inl (tA .int, 40, .inl (fun _ => 0))), (q11, .inl (tA .int, 40, .inl (fun _ => 0))), (q12, .inl (tA .int, 12, .inl (fun _ => 0))), (q13, .inl (tA .int, 600, .inl (fun _ => 0))), (q14, .inl (tA .int, 81, .inl (fun _ => 0))), (q15, .inl (tA .int, 9, .inl (fun _ => 0))), (q16, .inl (tA .int, 9, .inl (fun _ => 0))), (q17, .inl (tA .int, 20, .inl (fun _ => 0))), (q18, .inl (tA .int, 12, .inl (fun _ => 0))), (q19, .inl (tA .int, 12, .inl (fun _ => 0))), (q20, .inl (tA .int, 12, .inl (fun _ => 0))), (q21, .inl (tA .int, 12, .inl (fun _ => 0))), (q22, .inl (tA .int, 9, .inl (fun _ => 0))), (q23, .inl (tA .int, 9, .inl (fun _ => 0))), (q24, .inl (tA .int, 5, .inl (fun _ => 0))), (q25, .inl (tA .int, 4096, .inl (fun _ => 0))), (q26, .inl (tA .int, 12, .inl (fun _ => 0)))] := by rw [nh_ws_wl]; rfl
theorem h_X9 {D : va_G} {tA : FieldType → ClassId} {ad : Nat → Nat} {A : Nat → Prop} {pre : va_W} {q : Nat} {Q : va_W → Prop} (hQ : ∀ (L : List Nat), nh_adL 27 L ad 0 = q → Q (pre ++ nh_ws shR tA (nh_adL 27 L ad) s0R)) : ng_E kX9_init D tA ad A 0 [some (.ref q)] [] pre q 9 [.null, .null, .null, .null, .null, .null, .null, .null, .null, .null, .null, .int 0, .int 0, .null, .int 0, .null, .int 0, .int 0, .int 0, .int 0, .int 0, .int 0, .null, .null, .null, .null, .int 0, .null, .null, .null, .null, .int 0, .null, .null, .int 0, .null, .null, .int 0, .null] [] 0 0 Q := by
  refine g_X9 (fun q1 q2 q3 q4 q5 q6 q7 q8 q9 q10 q11 q12 q13 q14 q15 q16 q17 q18 q19 q20 q21 q22 q23 q24 q25 q26 => ?_)
  have h := hQ [q, q1, q2, q3, q4, q5, q6, q7, q8, q9, q10, q11, q12, q13, q14, q15, q16, q17, q18, q19, q20, q21, q22, q23, q24, q25, q26] rfl
  rw [wR_all] at h
  exact h
theorem RR_0 : RR s0R P0 := by
  refine ⟨⟨rfl, rfl, fun p hp => absurd hp (Nat.not_lt_zero _), fun a b ha => absurd ha (Nat.not_lt_zero _), fun h hh => absurd hh (Nat.not_lt_zero _)⟩, ⟨fun p hp => absurd hp (Nat.not_lt_zero _), rfl, rfl⟩, ⟨rfl, fun i hi => absurd hi (Nat.not_lt_zero _)⟩, ⟨fun p hp => absurd hp (Nat.not_lt_zero _), rfl, rfl, fun p hp => absurd hp (Nat.not_lt_zero _)⟩, fun i hi => ⟨rfl, fun q => absurd (show (0 : Nat) = 1 from q) (by decide)⟩, ⟨rfl, fun i hi => absurd hi (Nat.not_lt_zero _), rfl⟩⟩
theorem WF_0 : WF P0 := by
  refine ⟨⟨by decide, by decide, fun p hp => absurd hp (Nat.not_lt_zero _), fun h hh => absurd hh (Nat.not_lt_zero _), fun a b ha => absurd ha (Nat.not_lt_zero _)⟩, ⟨fun p hp => absurd hp (Nat.not_lt_zero _), by decide, by decide⟩, ⟨by decide, fun i hi => absurd hi (Nat.not_lt_zero _), fun i j hi => absurd hi (Nat.not_lt_zero _)⟩, ⟨fun p hp => absurd hp (Nat.not_lt_zero _), Or.inr ⟨rfl, rfl⟩⟩, fun i hi => ⟨Nat.zero_le _, fun q => absurd (show (0 : Nat) = 1 from q) (by decide)⟩, ⟨by decide, fun i hi => absurd hi (Nat.not_lt_zero _), by decide⟩⟩
