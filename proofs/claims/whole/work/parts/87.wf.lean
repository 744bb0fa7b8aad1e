/-! EVERY STATE THAT IS REACHED is sound -/
theorem ix_lt {x : Int32} {n h : Nat} (e : ix x n = some h) : h < n := by
  unfold ix at e
  split at e
  · cases e; omega
  · cases e
theorem WF_m {S T : SP} (hW : WF S) (hm : WFm T) (ht : ∀ t, t ∉ [9, 10, 11, 12] → T t = S t) : WF T :=
  ⟨WFc_tr hW.1 (fun t h => ht t (by simp; omega)), hm, WFp_tr hW.2.2.1 (ht 0 (by decide)) (ht 16 (by decide)) (ht 17 (by decide)) (ht 18 (by decide)), WFx_tr hW.2.2.2.1 (ht 0 (by decide)) (ht 1 (by decide)) (ht 13 (by decide)) (ht 14 (by decide)) (ht 15 (by decide)), WFi_tr hW.2.2.2.2.1 (ht 0 (by decide)) (ht 1 (by decide)) (ht 22 (by decide)) (ht 23 (by decide)) (ht 24 (by decide)) (ht 25 (by decide)) (ht 26 (by decide)), WFt_tr hW.2.2.2.2.2 (ht 19 (by decide)) (ht 20 (by decide)) (ht 21 (by decide))⟩
theorem WF_x {S T : SP} (hW : WF S) (hx : WFx T) (ht : ∀ t, t ∉ [13, 14, 15] → T t = S t) : WF T :=
  ⟨WFc_tr hW.1 (fun t h => ht t (by simp; omega)), WFm_tr hW.2.1 (ht 0 (by decide)) (ht 1 (by decide)) (ht 9 (by decide)) (ht 10 (by decide)) (ht 11 (by decide)) (ht 12 (by decide)), WFp_tr hW.2.2.1 (ht 0 (by decide)) (ht 16 (by decide)) (ht 17 (by decide)) (ht 18 (by decide)), hx, WFi_tr hW.2.2.2.2.1 (ht 0 (by decide)) (ht 1 (by decide)) (ht 22 (by decide)) (ht 23 (by decide)) (ht 24 (by decide)) (ht 25 (by decide)) (ht 26 (by decide)), WFt_tr hW.2.2.2.2.2 (ht 19 (by decide)) (ht 20 (by decide)) (ht 21 (by decide))⟩
theorem WF_i {S T : SP} (hW : WF S) (hi : WFi T) (ht : ∀ t, t ∉ [22, 23, 24, 25, 26] → T t = S t) : WF T :=
  ⟨WFc_tr hW.1 (fun t h => ht t (by simp; omega)), WFm_tr hW.2.1 (ht 0 (by decide)) (ht 1 (by decide)) (ht 9 (by decide)) (ht 10 (by decide)) (ht 11 (by decide)) (ht 12 (by decide)), WFp_tr hW.2.2.1 (ht 0 (by decide)) (ht 16 (by decide)) (ht 17 (by decide)) (ht 18 (by decide)), WFx_tr hW.2.2.2.1 (ht 0 (by decide)) (ht 1 (by decide)) (ht 13 (by decide)) (ht 14 (by decide)) (ht 15 (by decide)), hi, WFt_tr hW.2.2.2.2.2 (ht 19 (by decide)) (ht 20 (by decide)) (ht 21 (by decide))⟩
theorem WF_t {S T : SP} (hW : WF S) (hq : WFt T) (ht : ∀ t, t ∉ [19, 20, 21] → T t = S t) : WF T :=
  ⟨WFc_tr hW.1 (fun t h => ht t (by simp; omega)), WFm_tr hW.2.1 (ht 0 (by decide)) (ht 1 (by decide)) (ht 9 (by decide)) (ht 10 (by decide)) (ht 11 (by decide)) (ht 12 (by decide)), WFp_tr hW.2.2.1 (ht 0 (by decide)) (ht 16 (by decide)) (ht 17 (by decide)) (ht 18 (by decide)), WFx_tr hW.2.2.2.1 (ht 0 (by decide)) (ht 1 (by decide)) (ht 13 (by decide)) (ht 14 (by decide)) (ht 15 (by decide)), WFi_tr hW.2.2.2.2.1 (ht 0 (by decide)) (ht 1 (by decide)) (ht 22 (by decide)) (ht 23 (by decide)) (ht 24 (by decide)) (ht 25 (by decide)) (ht 26 (by decide)), hq⟩
theorem sUp_out (S : SP) {t : Nat} (i j v : Nat) {ks : List Nat} (hk : t ∈ ks) : ∀ t', t' ∉ ks → sUp S t i j v t' = S t' := fun t' h => sUp_ne S (fun q => h (by rw [q]; exact hk)) i j v
theorem WF_nAway {S : SP} (hW : WF S) (x : Int32) : WF (nAway S x) := by
  unfold nAway
  split
  · exact hW
  · rename_i m e
    have hm := ix_lt e
    refine WF_m hW ⟨fun p hp => hW.2.1.1 p hp, ?_, hW.2.1.2.2⟩ (sUp_out S _ _ _ (by decide))
    show sUp S 11 0 0 m 11 0 0 < _
    rw [sUp_at, if_pos ⟨rfl, rfl⟩]
    exact hm
theorem WF_nKeepAt {S : SP} (hW : WF S) (x y : Int32) : WF (nKeepAt S x y) := by
  unfold nKeepAt
  split
  · rename_i p h e1 e2
    exact WF_kp hW (ix_lt e2)
  · exact hW
theorem WF_nFit {S : SP} (hW : WF S) (x y : Int32) : WF (nFit S x y) := by
  unfold nFit
  split
  · rename_i p m e1 e2
    have hp := ix_lt e1
    have hm := ix_lt e2
    refine WF_m hW ⟨fun p' hp' => ⟨(hW.2.1.1 p' hp').1, ?_⟩, hW.2.1.2⟩ (sUp_out S _ _ _ (by decide))
    show sUp S 10 p 0 (m ||| 2 ^ p) 10 p' 0 < _
    rw [sUp_at]
    split
    · exact Nat.or_lt_two_pow hm (Nat.pow_lt_pow_right (by omega) hp)
    · exact (hW.2.1.1 p' hp').2
  · exact hW
theorem WF_nSeed {S : SP} (hW : WF S) (x : Int32) : WF (nSeed S x) := by
  unfold nSeed
  split
  · refine WF_sd hW ?_
    have := x.toInt_lt
    omega
  · exact hW
theorem WF_nNight {S : SP} (hW : WF S) (x : Int32) : WF (nNight S x) := by
  unfold nNight
  split
  · exact hW
  · rename_i q e
    refine WF_m (WF_sd hW (sdq_lt hW (sH S))) ⟨fun p hp => hW.2.1.1 p hp, ?_, ?_⟩ (sUp_out _ _ _ _ (by decide))
    · show sUp (sUp S 12 0 0 _) 11 0 0 (mk (ngt S q) (sH S)) 11 0 0 < _
      rw [sUp_at, if_pos ⟨rfl, rfl⟩]
      exact mk_lt _ _
    · show sUp (sUp S 12 0 0 (sdq S (sH S))) 11 0 0 _ 12 0 0 < _
      rw [sUp_ne _ (by omega), sUp_at, if_pos ⟨rfl, rfl⟩]
      exact sdq_lt hW _
theorem WF_nCost {S : SP} (hW : WF S) (x y : Int32) : WF (nCost S x y) := by
  unfold nCost
  split
  · rename_i p c e1 e2
    have hc := ix_lt e2
    refine WF_x hW ⟨fun p' hp' => ⟨?_, (hW.2.2.2.1.1 p' hp').2⟩, hW.2.2.2.1.2⟩ (sUp_out S _ _ _ (by decide))
    show sUp S 13 p 0 c 13 p' 0 ≤ 99
    rw [sUp_at]
    split
    · omega
    · exact (hW.2.2.2.1.1 p' hp').1
  · exact hW
theorem WF_nStore {S : SP} (hW : WF S) (x : Int32) : WF (nStore S x) := by
  unfold nStore
  split
  · exact hW
  · rename_i h e
    refine WF_x hW ⟨hW.2.2.2.1.1, Or.inl ?_⟩ (sUp_out S _ _ _ (by decide))
    show sUp S 14 0 0 h 14 0 0 < _
    rw [sUp_at, if_pos ⟨rfl, rfl⟩]
    exact ix_lt e
theorem WF_nLog {S : SP} (hW : WF S) (x y : Int32) : WF (nLog S x y) := by
  unfold nLog
  split
  · rename_i p m e1 e2
    have hm := ix_lt e2
    refine WF_x hW ⟨fun p' hp' => ⟨(hW.2.2.2.1.1 p' hp').1, ?_⟩, hW.2.2.2.1.2⟩ (sUp_out S _ _ _ (by decide))
    show sUp S 15 p 0 (m + 1) 15 p' 0 ≤ 1000
    rw [sUp_at]
    split
    · omega
    · exact (hW.2.2.2.1.1 p' hp').2
  · exact hW
theorem WF_nClear {S : SP} (hW : WF S) : WF (nClear S) := by
  refine WF_x hW ⟨fun p hp => ⟨(hW.2.2.2.1.1 p hp).1, ?_⟩, hW.2.2.2.1.2⟩ (fun t ht => sTag_ne S (fun q => ht (by rw [q]; decide)) _)
  show sTag S 15 (fun _ _ => 0) 15 p 0 ≤ 1000
  rw [sTag_at]
  omega
theorem WF_nKeep {S : SP} (hW : WF S) (x : Int32) : WF (nKeep S x) := by
  unfold nKeep
  split
  · exact hW
  · rename_i i e
    refine WF_i hW (fun j hj => ?_) (fun t ht => ?_)
    · by_cases q : j = i
      · subst q
        simp only [sIm, sIk, sIf, sIa, sIs, sP, sH]
        exact ⟨by simp, fun _ => ⟨fun p hp => by simpa [sKp, sFt, sP, sH] using hW.2.1.1 p hp, by simpa [sAw, sH] using hW.2.1.2.1, by simpa [sSd] using hW.2.1.2.2⟩⟩
      · have := hW.2.2.2.2.1 j hj
        simpa [sIm, sIk, sIf, sIa, sIs, sP, sH, q] using this
    · simp at ht
      funext a b
      rw [if_neg (by omega), if_neg (by omega), if_neg (by omega), if_neg (by omega), if_neg (by omega)]
theorem WF_nGoBack {S : SP} (hW : WF S) (x : Int32) : WF (nGoBack S x) := by
  unfold nGoBack
  split
  · exact hW
  · rename_i i e
    split
    · rename_i h1
      obtain ⟨a1, a2, a3⟩ := (hW.2.2.2.2.1 i (ix_lt e)).2 h1
      refine WF_m hW ⟨fun p hp => ?_, ?_, ?_⟩ (fun t ht => ?_)
      · have := a1 p hp
        simpa [sKp, sFt, sP, sH, sIk, sIf] using this
      · simpa [sAw, sH, sIa] using a2
      · simpa [sSd, sIs] using a3
      · simp at ht
        funext a b
        rw [if_neg (by omega), if_neg (by omega), if_neg (by omega), if_neg (by omega)]
    · exact hW
theorem WF_nFeed {S : SP} (hW : WF S) (x : Int32) (y : Int64) : WF (nFeed S x y) := by
  unfold nFeed
  split
  · exact hW
  · rename_i n e
    split
    · exact hW
    · split
      · rename_i h0 h6
        refine WF_t hW ⟨by rw [nFd_n]; exact h6, fun i hi => ?_, ?_⟩ (fun t ht => nFd_ne S n y (by rintro rfl; exact ht (by decide)) (by rintro rfl; exact ht (by decide)))
        · rw [nFd_n] at hi
          rw [nFd_x]
          split
          · exact byB_lt _ _
          · rename_i q
            exact hW.2.2.2.2.2.2.1 i (by omega)
        · show nFd S n y 21 0 0 ≤ 601
          rw [nFd_ne S n y (by omega) (by omega)]
          exact hW.2.2.2.2.2.2.2
      · exact hW
theorem WF_nBad {S : SP} (hW : WF S) {z : Nat × Nat} (hz : z.2 ≤ 600) : WF (nBad S z) := by
  have e21 : (nBad S z) 21 0 0 = z.2 + 1 := by unfold nBad; rw [sUp_at, if_pos ⟨rfl, rfl⟩]
  have e19 : (nBad S z) 19 0 0 = 0 := by unfold nBad; rw [sUp_ne _ (by omega), sUp_at, if_pos ⟨rfl, rfl⟩]
  refine WF_t hW ⟨?_, fun i hi => ?_, ?_⟩ (fun t ht => nBad_ne S z (by rintro rfl; exact ht (by decide)) (by rintro rfl; exact ht (by decide)))
  · show nBad S z 19 0 0 ≤ 600
    omega
  · have hi2 : i < nBad S z 19 0 0 := hi
    omega
  · show nBad S z 21 0 0 ≤ 601
    omega
theorem WF_nPar {S P : SP} (hW : WF S) (hP : WQ P) : WF (nPar S P) := by
  obtain ⟨w1, w2, w3, w4, w5⟩ := hP
  have tp : ∀ t, t ∈ [0, 1, 2, 3, 4, 6, 7, 8, 9] → nPar S P t = P t := fun t ht => by funext i j; unfold nPar; rw [if_pos ht]
  have t5 : nPar S P 5 = fl P (sH P) := by funext i j; unfold nPar; rw [if_neg (by decide), if_pos rfl]
  have t10 : ∀ i j, nPar S P 10 i j = 2 ^ i := fun i j => by simp [nPar]
  have t13 : ∀ i j, nPar S P 13 i j = 10 := fun i j => by simp [nPar]
  have t12 : nPar S P 12 = S 12 := by funext i j; simp [nPar]
  have tz : ∀ t, t ∈ [11, 14, 15, 16, 19, 21, 22] → ∀ i j, nPar S P t i j = 0 := fun t ht i j => by
    unfold nPar
    simp at ht
    rcases ht with rfl | rfl | rfl | rfl | rfl | rfl | rfl <;> simp
  have eH : sH (nPar S P) = sH P := by unfold sH; rw [tp 0 (by decide)]
  have eP : sP (nPar S P) = sP P := by unfold sP; rw [tp 1 (by decide)]
  refine ⟨⟨by rw [eH]; exact w1, by rw [eP]; exact w2, fun p hp => ?_, fun h hh => ?_, fun a b ha hb => ?_⟩, ⟨fun p hp => ?_, ?_, ?_⟩, ⟨?_, fun i hi => ?_, fun i j hi => ?_⟩, ⟨fun p hp => ?_, ?_⟩, fun i hi => ⟨?_, fun q => ?_⟩, ⟨?_, fun i hi => ?_, ?_⟩⟩
  · rw [eP] at hp
    unfold sMi sGa sBe
    rw [tp 2 (by decide), tp 3 (by decide), tp 4 (by decide)]
    exact (w4 p hp).2
  · rw [eH] at hh
    unfold sWk sKy sOd
    rw [tp 7 (by decide), tp 8 (by decide), tp 6 (by decide)]
    exact w3 h hh
  · unfold sFar
    rw [t5]
    exact ⟨fl_le ⟨w1, w2, w3, w4, w5⟩ _ _ _, fun q => by rw [q]; exact fl_diag P _ _, fun q => fl_pos _ _ _ q⟩
  · rw [eP] at hp
    rw [eH, eP]
    unfold sKp sFt
    rw [tp 9 (by decide), t10]
    exact ⟨(w4 p hp).1, Nat.pow_lt_pow_right (by omega) hp⟩
  · unfold sAw
    rw [tz 11 (by decide)]
    exact Nat.two_pow_pos _
  · unfold sSd
    rw [t12]
    exact hW.2.1.2.2
  · unfold sPn
    rw [tz 16 (by decide)]
    omega
  · unfold sPn at hi
    rw [tz 16 (by decide)] at hi
    omega
  · unfold sPn at hi
    rw [tz 16 (by decide)] at hi
    omega
  · unfold sCs sLg
    rw [t13, tz 15 (by decide)]
    omega
  · rw [eH]
    unfold sSt
    rw [tz 14 (by decide)]
    omega
  · unfold sIm
    rw [tz 22 (by decide)]
    omega
  · unfold sIm at q
    rw [tz 22 (by decide)] at q
    omega
  · unfold sTn
    rw [tz 19 (by decide)]
    omega
  · unfold sTn at hi
    rw [tz 19 (by decide)] at hi
    omega
  · unfold sFa
    rw [tz 21 (by decide)]
    omega
theorem WF_nParish {S : SP} (hW : WF S) : WF (nParish S) := by
  have hn := hW.2.2.2.2.2.1
  have hf := tkAll_fine (T := sTx S) (n := sTn S) (f := 600) (P := P0) (a := 0) (Nat.zero_le _)
  unfold nParish
  cases h : tkAll (sTx S) (sTn S) 600 P0 0 with
  | error z =>
    rw [h] at hf
    have h2 : z.2 ≤ sTn S := hf.2.2
    exact WF_nBad hW (by omega)
  | ok y => exact WF_nPar hW (tkAll_WQ (P2 := y.1) (e := y.2) WQ_0 h)
theorem tkP_WW {T : Nat → Nat} {n H : Nat} : ∀ (f : Nat) (P P2 : SP) (a e : Nat), WW H P → tkP T n H f P a = .ok (P2, e) → WW H P2
  | 0, P, P2, a, e, hW, h => by cases h; exact hW
  | f + 1, P, P2, a, e, hW, h => by
    rw [tkP] at h
    split at h
    · obtain ⟨P3, e1, g1, g2⟩ := rb_inv h
      refine tkP_WW f P3 P2 e1 e ?_ g2
      rw [tkW_eq] at g1
      split at g1
      · unfold tkWk at g1
        split at g1
        · cases g1
        · rename_i h20
          obtain ⟨x, e2, k1, k2⟩ := rb_inv g1
          obtain ⟨y, e3, k3, k4⟩ := rb_inv k2
          split at k4
          · cases k4
          · rename_i hne
            obtain ⟨u, e4, k5, k6⟩ := rb_inv k4
            cases k6
            exact nWake_WW hW (tkN_ok k1).2.1 (tkN_ok k3).2.1 (fun q => hne (Or.inl q)) h20 (fun q => hne (Or.inr q))
      · cases g1
    · cases h; exact hW
theorem WF_nPlan {S : SP} (hW : WF S) : WF (nPlan S) := by
  have hn := hW.2.2.2.2.2.1
  have hf := tkP_fine (T := sTx S) (n := sTn S) (H := sH S) (f := 600) (P := P0) (a := 0) (Nat.zero_le _)
  unfold nPlan
  split
  · cases h : tkP (sTx S) (sTn S) (sH S) 600 P0 0 with
    | error z =>
      rw [h] at hf
      have h2 : z.2 ≤ sTn S := hf.2.2
      exact WF_nBad hW (by omega)
    | ok y =>
      have hP := tkP_WW 600 P0 y.1 0 y.2 (WW_0 _) h
      have t : ∀ x, x ∉ [16, 17, 18, 19, 21] → nPln S y.1 x = S x := fun x hx => by funext i j; simp at hx; unfold nPln; rw [if_neg (by simp; omega), if_neg (by omega)]
      have tp : ∀ x, x ∈ [16, 17, 18] → nPln S y.1 x = y.1 x := fun x hx => by funext i j; unfold nPln; rw [if_pos hx]
      have z19 : sTn (nPln S y.1) = 0 := by simp [sTn, nPln]
      have z21 : sFa (nPln S y.1) = 0 := by simp [sFa, nPln]
      refine ⟨WFc_tr hW.1 (fun x h => t x (by simp; omega)), WFm_tr hW.2.1 (t 0 (by decide)) (t 1 (by decide)) (t 9 (by decide)) (t 10 (by decide)) (t 11 (by decide)) (t 12 (by decide)), ?_, WFx_tr hW.2.2.2.1 (t 0 (by decide)) (t 1 (by decide)) (t 13 (by decide)) (t 14 (by decide)) (t 15 (by decide)), WFi_tr hW.2.2.2.2.1 (t 0 (by decide)) (t 1 (by decide)) (t 22 (by decide)) (t 23 (by decide)) (t 24 (by decide)) (t 25 (by decide)) (t 26 (by decide)), ⟨by rw [z19]; omega, fun i hi => by rw [z19] at hi; omega, by rw [z21]; omega⟩⟩
      show WFp (nPln S y.1)
      unfold WFp sPn sPa sPb sH
      rw [tp 16 (by decide), tp 17 (by decide), tp 18 (by decide), t 0 (by decide)]
      exact hP
  · exact hW
