/-! THE CLASS: parish(), feed() -/
theorem c_txBegin {σ : nh_S} {S : SP} (hC : CR σ S) (hW : WF S) {Q : Option Value → nh_S → Prop} (hQ : ∀ τ, frX σ τ → gd τ (sTx S) (sTn S) 0 → Q none τ) : nh_E kX6_begin 0 [some (.ref 1)] [] σ Q := by
  obtain ⟨g1, g2, g3⟩ := hC.2.2.2.2.2.2
  obtain ⟨w1, w2, w3⟩ := hW.2.2.2.2.2
  refine sg_X6_begin_0 (hQ _ (((((frX.rf σ).si _ _).si _ _).si _ _).si _ _) ⟨⟨?_, ?_⟩, ?_, w1, fun i hi => ⟨g2 i hi, w2 i hi⟩, ?_, Nat.zero_le _⟩)
  · rw [bs_geti, if_neg (by omega), bs_geti, if_pos ⟨rfl, rfl⟩]
  · rw [bs_geti, if_pos ⟨rfl, rfl⟩]
  · rw [bs_geti, if_neg (by omega), bs_geti, if_neg (by omega), bs_geti, if_neg (by omega), bs_geti, if_neg (by omega)]
    exact g1
  · rw [bs_geti, if_neg (by omega), bs_geti, if_neg (by omega), bs_geti, if_neg (by omega), bs_geti, if_pos ⟨rfl, rfl⟩]
    rfl
/-- a FAULT leaves all but THE TEXT -/
theorem CR_bad {σ τ : nh_S} {S : SP} {o w : Nat} {z : Nat × Nat} (hC : CR σ S) (hW : WF S) (hf : frO o w σ τ) (hd : ∀ k, (k < 12 ∨ k = 30 ∨ k = 31 ∨ (σ.2.2 0 11 ≤ k ∧ k ≤ σ.2.2 0 11 + 21) ∨ (σ.2.2 0 13 ≤ k ∧ k ≤ σ.2.2 0 13 + 2)) → k < o ∨ o + w < k) (hb : cbd τ z) : CR (nh_si τ 1 1 0) (nBad S z) := by
  obtain ⟨h1, h2, h3, h4, h5, h6, h7⟩ := hC
  have hp := h1.1.n
  have hl := h1.2.2.2.1
  unfold isM at hl
  have g := fun t a b => nBad_ne S z (t := t) a b
  have e21 : (nBad S z) 21 0 0 = z.2 + 1 := by unfold nBad; rw [sUp_at, if_pos ⟨rfl, rfl⟩]
  have e19 : (nBad S z) 19 0 0 = 0 := by unfold nBad; rw [sUp_ne _ (by omega), sUp_at, if_pos ⟨rfl, rfl⟩]
  have w2 : (nh_si τ 1 1 0).2 = τ.2 := rfl
  have w0 : (nh_si τ 1 1 0).1 1 1 = 0 := by rw [bs_geti, if_pos ⟨rfl, rfl⟩]
  have w4 : (nh_si τ 1 1 0).1 1 4 = τ.1 1 4 := by rw [bs_geti, if_neg (by omega)]
  have wk : ∀ k, k ≠ 1 → (nh_si τ 1 1 0).1 k = τ.1 k := fun k hk => si_neK _ _ _ hk
  generalize nh_si τ 1 1 0 = ω at w2 w0 w4 wk ⊢
  have a1 : ∀ k, k ≠ 1 → (k < 12 ∨ k = 30 ∨ k = 31 ∨ (σ.2.2 0 11 ≤ k ∧ k ≤ σ.2.2 0 11 + 21) ∨ (σ.2.2 0 13 ≤ k ∧ k ≤ σ.2.2 0 13 + 2)) → ω.1 k = σ.1 k := fun k hk q => by rw [wk k hk]; exact (hf.1 k hk (hd k q)).1
  have a2 : ∀ k, k ≠ 1 → (k < 12 ∨ k = 30 ∨ k = 31 ∨ (σ.2.2 0 11 ≤ k ∧ k ≤ σ.2.2 0 11 + 21) ∨ (σ.2.2 0 13 ≤ k ∧ k ≤ σ.2.2 0 13 + 2)) → ω.2.1 k = σ.2.1 k := fun k hk q => by rw [w2]; exact (hf.1 k hk (hd k q)).2
  have a3 : ω.2.2 = σ.2.2 := by rw [w2]; exact hf.2
  refine ⟨CRr_tr h1 (by rw [a3]), ?_, CRm_tr h3 (a2 4 (by omega) (by omega)) (a2 5 (by omega) (by omega)) (a1 3 (by omega) (by omega)) (g 1 (by omega) (by omega)) (g 9 (by omega) (by omega)) (g 10 (by omega) (by omega)) (g 11 (by omega) (by omega)) (g 12 (by omega) (by omega)), ?_, CRx_tr h5 (a2 30 (by omega) (by omega)) (a2 31 (by omega) (by omega)) (by rw [a1 0 (by omega) (by omega)]) (g 1 (by omega) (by omega)) (g 13 (by omega) (by omega)) (g 14 (by omega) (by omega)) (g 15 (by omega) (by omega)), CRi_tr h6 (fun k k1 k2 => ⟨a1 k (by omega) (by omega), a2 k (by omega) (by omega)⟩) (g 1 (by omega) (by omega)) (g 22 (by omega) (by omega)) (g 23 (by omega) (by omega)) (g 24 (by omega) (by omega)) (g 25 (by omega) (by omega)) (g 26 (by omega) (by omega)), ?_⟩
  · rw [a3]
    exact CRc_tr h2 hW.1 (a1 _ (by omega) (by omega)) (fun k k1 k2 => a2 k (by omega) (by omega)) (fun t h => g t (by omega) (by omega))
  · rw [a3]
    unfold sPn sPa sPb
    rw [g 16 (by omega) (by omega), g 17 (by omega) (by omega), g 18 (by omega) (by omega)]
    exact CRp_tr h4 (a1 _ (by omega) (by omega)) (a2 _ (by omega) (by omega)) (a2 _ (by omega) (by omega))
  · unfold CRt sTn sFa
    rw [e19, e21]
    refine ⟨w0, fun i hi => absurd hi (Nat.not_lt_zero _), ?_⟩
    rw [w4, hb.2.1, if_neg (by omega)]
    rfl
/-- a new parish -/
theorem CR_par {σ υ τ : nh_S} {S P : SP} {o : Nat} (hS : σ.1 3 3 = nI (sSd S)) (hP : WQ P) (hC : CQ υ o P) (hr : CRr τ) (ho : τ.2.2 0 11 = o) (hl : isP o)
    (b0 : τ.1 o 0 = nI (sH P)) (b1 : τ.1 o 1 = nI (sP P)) (bk : ∀ k, o < k → k ≤ o + 21 → (k < o + 9 ∨ o + 18 ≤ k) → τ.2.1 k = υ.2.1 k) (bf : ∀ a b, a < sH P → b < sH P → τ.2.1 (o + 9 + a) b = nI (fl P (sH P) a b))
    (c13 : τ.1 (τ.2.2 0 13) 0 = 0) (c3 : τ.1 3 3 = σ.1 3 3) (c2 : τ.1 3 2 = 0) (d4 : ∀ p, p < sP P → τ.2.1 4 p = nI (sKp P p)) (d5 : ∀ p, p < 12 → τ.2.1 5 p = nI (2 ^ p)) (i6 : τ.1 6 4 = 0) (i9 : τ.1 9 4 = 0) (x30 : ∀ p, p < 12 → τ.2.1 30 p = 10) (x31 : ∀ p, p < 12 → τ.2.1 31 p = -1) (x16 : τ.1 0 16 = 0) (t1 : τ.1 1 1 = 0) (t4 : τ.1 1 4 = -1) : CR τ (nPar S P) := by
  obtain ⟨r1, r2, r3, r4, r5⟩ := hC
  have h9 := hP.1
  have h12 := hP.2.1
  have tp : ∀ t, t ∈ [0, 1, 2, 3, 4, 6, 7, 8, 9] → nPar S P t = P t := fun t ht => by funext i j; unfold nPar; rw [if_pos ht]
  have t5 : nPar S P 5 = fl P (sH P) := by funext i j; unfold nPar; rw [if_neg (by decide), if_pos rfl]
  have t10 : ∀ i j, nPar S P 10 i j = 2 ^ i := fun i j => by simp [nPar]
  have t13 : ∀ i j, nPar S P 13 i j = 10 := fun i j => by simp [nPar]
  have t12 : nPar S P 12 = S 12 := by funext i j; simp [nPar]
  have tz : ∀ t, t ∈ [11, 14, 15, 16, 19, 21, 22] → ∀ i j, nPar S P t i j = 0 := fun t ht i j => by
    unfold nPar
    simp at ht
    rcases ht with rfl | rfl | rfl | rfl | rfl | rfl | rfl <;> simp
  have eH : sH (nPar S P) = sH P := by unfold sH; rw [tp 0 (by decide)]
  have eP : sP (nPar S P) = sP P := by unfold sP; rw [tp 1 (by decide)]
  refine ⟨hr, ?_, ⟨fun p hp => ?_, ?_, ?_⟩, ⟨?_, fun i hi => ?_⟩, ⟨fun p hp => ?_, ?_, fun p hp => ?_⟩, fun i hi => ?_, ⟨?_, fun i hi => ?_, ?_⟩⟩
  · rw [ho]
    refine ⟨by rw [eH]; exact b0, by rw [eP]; exact b1, fun p hp => ?_, fun a b ha hb => ?_, fun h hh => ?_⟩
    · rw [eP] at hp
      unfold sMi sGa sBe
      rw [tp 2 (by decide), tp 3 (by decide), tp 4 (by decide), bk _ (by omega) (by omega) (by omega), bk _ (by omega) (by omega) (by omega), bk _ (by omega) (by omega) (by omega)]
      exact (r4 p hp).2
    · rw [eH] at ha hb
      unfold sFar
      rw [t5]
      exact bf a b ha hb
    · rw [eH] at hh
      unfold sWk sKy sOd
      rw [tp 7 (by decide), tp 8 (by decide), tp 6 (by decide), bk _ (by omega) (by omega) (by omega), bk _ (by omega) (by omega) (by omega)]
      obtain ⟨a1, a2, a3⟩ := r3 h hh
      exact ⟨a1, a2, fun q hq => by rw [bk _ (by omega) (by omega) (by omega)]; exact a3 q hq⟩
  · rw [eP] at hp
    unfold sKp sFt
    rw [tp 9 (by decide), t10]
    exact ⟨d4 p hp, d5 p (by omega)⟩
  · unfold sAw
    rw [tz 11 (by decide)]
    exact c2
  · unfold sSd
    rw [t12, c3]
    exact hS
  · unfold sPn
    rw [tz 16 (by decide)]
    exact c13
  · unfold sPn at hi
    rw [tz 16 (by decide)] at hi
    omega
  · rw [eP] at hp
    unfold sCs
    rw [t13, x30 p (by omega)]
    rfl
  · unfold sSt
    rw [tz 14 (by decide)]
    exact x16
  · rw [eP] at hp
    unfold lgo sLg
    rw [tz 15 (by decide), if_pos rfl, x31 p (by omega)]
    rfl
  · unfold sIm
    rw [tz 22 (by decide)]
    refine ⟨?_, fun q => absurd q (by decide)⟩
    rcases (show i = 0 ∨ i = 1 by omega) with rfl | rfl
    · exact i6
    · exact i9
  · unfold sTn
    rw [tz 19 (by decide)]
    exact t1
  · unfold sTn at hi
    rw [tz 19 (by decide)] at hi
    omega
  · unfold sFa
    rw [tz 21 (by decide), if_pos rfl]
    exact t4
set_option maxHeartbeats 1000000 in
theorem c_parish {S : SP} {σ : nh_S} (hC : CR σ S) (hW : WF S) {Q : Option Value → nh_S → Prop} (hQ : ∀ τ, CR τ (nParish S) → Q (some (.int (aParish S))) τ) : nh_E kX8_parish 0 [some (.ref 0), none] [] σ Q := by
  unfold nParish aParish at hQ
  obtain ⟨p1, p2, p3, p4, p5, p6⟩ := hC.1
  have n1 := p1
  have n2 := p2
  unfold isP at n1 n2
  have n4 := p4
  unfold isM at n4
  refine sg_X8_parish_0 ?_
  refine c_txBegin hC hW (fun τ t1 t2 => ⟨rfl, ?_⟩)
  dsimp only
  rw [show τ.2.2 = σ.2.2 by rw [t1.1]]
  refine ⟨p2, ?_⟩
  generalize ho : σ.2.2 0 12 = o at *
  refine sg_X3_learn_0 p2 (c_forget p2 (fun υ u1 u2 u3 => ⟨rfl, ?_⟩))
  have f1 : frO o 21 σ υ := (t1.O o 21).tr u1
  have g1 : gd υ (sTx S) (sTn S) 0 := ⟨⟨by rw [u2]; exact t2.1.1, by rw [u2]; exact t2.1.2⟩, by rw [u2]; exact t2.2.1, t2.2.2.1, fun i hi => by rw [(u1.1 2 (by omega) (by omega)).2]; exact t2.2.2.2.1 i hi, by rw [u2]; exact t2.2.2.2.2.1, t2.2.2.2.2.2⟩
  refine c_learn_go (σ := σ) (W0 := tkAll (sTx S) (sTn S) 600 P0 0) p2 (fun z ξ hw x1 x2 => ⟨rfl, ?_⟩) (fun P e ξ hw hWP x1 x2 x3 x4 hex x6 => ⟨rfl, ?_⟩) 600 0 0 P0 υ rfl f1 g1 u3 WQ_0 rfl
  · refine ⟨fun q => absurd q x2.1.ne, fun _ => ?_⟩
    rw [hw] at hQ
    rw [x2.1.1]
    exact hQ _ (CR_bad hC hW x1 (fun k hk => by omega) x2.1)
  · refine ⟨fun _ => ?_, fun q => absurd x2.1.1 q⟩
    rw [hw] at hQ
    dsimp only at hQ ⊢
    have er : ξ.2.2 = σ.2.2 := x1.2
    rw [er, ho]
    refine ⟨p1, p2, ?_⟩
    obtain ⟨κ, hκ, hsh⟩ := hex
    have A1 : (nh_sr (nh_sr (nh_si ξ 1 1 0) 0 11 o) 0 12 (σ.2.2 0 11)).2.2 0 11 = o := by rw [bs_getr, if_neg (by omega), bs_getr, if_pos ⟨rfl, rfl⟩]
    have A2 : (nh_sr (nh_sr (nh_si ξ 1 1 0) 0 11 o) 0 12 (σ.2.2 0 11)).2.2 0 12 = σ.2.2 0 11 := by rw [bs_getr, if_pos ⟨rfl, rfl⟩]
    have A3 : (nh_sr (nh_sr (nh_si ξ 1 1 0) 0 11 o) 0 12 (σ.2.2 0 11)).2.2 0 13 = σ.2.2 0 13 := by rw [bs_getr, if_neg (by omega), bs_getr, if_neg (by omega), bs_si2, er]
    have A4 : (nh_sr (nh_sr (nh_si ξ 1 1 0) 0 11 o) 0 12 (σ.2.2 0 11)).2.2 0 14 = σ.2.2 0 14 := by rw [bs_getr, if_neg (by omega), bs_getr, if_neg (by omega), bs_si2, er]
    have A5 : ∀ k, k ≠ 1 → (nh_sr (nh_sr (nh_si ξ 1 1 0) 0 11 o) 0 12 (σ.2.2 0 11)).1 k = ξ.1 k := fun k hk => by rw [bs_sr1, bs_sr1, si_neK _ _ _ hk]
    have A6 : (nh_sr (nh_sr (nh_si ξ 1 1 0) 0 11 o) 0 12 (σ.2.2 0 11)).1 1 1 = 0 := by rw [bs_sr1, bs_sr1, bs_geti, if_pos ⟨rfl, rfl⟩]
    have A7 : (nh_sr (nh_sr (nh_si ξ 1 1 0) 0 11 o) 0 12 (σ.2.2 0 11)).1 1 4 = ξ.1 1 4 := by rw [bs_sr1, bs_sr1, bs_geti, if_neg (by omega)]
    have A8 : (nh_sr (nh_sr (nh_si ξ 1 1 0) 0 11 o) 0 12 (σ.2.2 0 11)).2.1 = ξ.2.1 := by rw [bs_sr2, bs_sr2, bs_si2]
    generalize nh_sr (nh_sr (nh_si ξ 1 1 0) 0 11 o) 0 12 (σ.2.2 0 11) = ρ at A1 A2 A3 A4 A5 A6 A7 A8 ⊢
    have hr : CRr ρ := by
      unfold CRr
      rw [A1, A2, A3, A4]
      exact ⟨p2, p1, fun q => p3 q.symm, p4, p5, p6⟩
    refine c_startAnew (P := P) hr hWP.2.1 (by rw [A1, A5 o (by omega)]; exact x4) (fun p hp => ?_) (fun ω y1 y2 y3 y4 y5 y6 y7 y8 y9 y10 y11 y12 y13 => ⟨rfl, ?_⟩)
    · rw [A1, A8, hsh.2.2 _ (by omega)]
      exact (hκ.2.2.2.1 p hp).1
    · dsimp only
      rw [A3] at y2 y4
      have e11 : ω.2.2 0 11 = o := by rw [y1, A1]
      have eo : ω.1 o = ξ.1 o := by rw [y2 o (by omega) (by omega), A5 o (by omega)]
      rw [e11, eo, x3]
      refine ⟨p2, hQ ω (CR_par (σ := σ) (υ := κ) hC.2.2.1.2.2 hWP hκ (CRr_tr hr (by rw [y1])) e11 p2 (by rw [eo]; exact x3) (by rw [eo]; exact x4) (fun k k1 k2 k3 => ?_) (fun a b ha hb => ?_) ?_ ?_ y6 y7 y8 y9 y10 y11 y12 y13 ?_ ?_)⟩
      · rw [y3 k (by omega), A8, hsh.2.2 k k3]
      · have := hWP.1
        rw [y3 _ (by omega), A8]
        exact x6 a b ha hb
      · rw [y1, A3]
        exact y4
      · rw [y5, A5 3 (by omega), (x1.1 3 (by omega) (by omega)).1]
      · rw [y2 1 (by omega) (by omega)]
        exact A6
      · rw [y2 1 (by omega) (by omega), A7]
        exact x2.1.2
theorem CR_txt {σ τ : nh_S} {S S2 : SP} (hC : CR σ S) (hW : WF S) (ht : CRt τ S2) (h1 : ∀ k, k ≠ 1 → τ.1 k = σ.1 k) (h2 : ∀ k, k ≠ 2 → τ.2.1 k = σ.2.1 k) (h3 : τ.2.2 = σ.2.2) (g : ∀ t, t ∉ [19, 20, 21] → S2 t = S t) : CR τ S2 := by
  obtain ⟨q1, q2, q3, q4, q5, q6, q7⟩ := hC
  have hp := q1.1.n
  have hl := q1.2.2.2.1
  unfold isM at hl
  refine ⟨CRr_tr q1 (by rw [h3]), ?_, CRm_tr q3 (h2 4 (by omega)) (h2 5 (by omega)) (h1 3 (by omega)) (g 1 (by decide)) (g 9 (by decide)) (g 10 (by decide)) (g 11 (by decide)) (g 12 (by decide)), ?_, CRx_tr q5 (h2 30 (by omega)) (h2 31 (by omega)) (by rw [h1 0 (by omega)]) (g 1 (by decide)) (g 13 (by decide)) (g 14 (by decide)) (g 15 (by decide)), CRi_tr q6 (fun k k1 k2 => ⟨h1 k (by omega), h2 k (by omega)⟩) (g 1 (by decide)) (g 22 (by decide)) (g 23 (by decide)) (g 24 (by decide)) (g 25 (by decide)) (g 26 (by decide)), ht⟩
  · rw [h3]
    exact CRc_tr q2 hW.1 (h1 _ (by omega)) (fun k k1 k2 => h2 k (by omega)) (fun t h => g t (by simp; omega))
  · rw [h3]
    unfold sPn sPa sPb
    rw [g 16 (by decide), g 17 (by decide), g 18 (by decide)]
    exact CRp_tr q4 (h1 _ (by omega)) (h2 _ (by omega)) (h2 _ (by omega))
theorem c_append {σ : nh_S} {L n : Nat} (x : Int64) (h1 : σ.1 1 1 = nI L) (hn : n ≤ 8) (hL : L + n ≤ 600) {Q : Option Value → nh_S → Prop} (hQ : ∀ τ, (∀ k, k ≠ 1 → τ.1 k = σ.1 k) → τ.1 1 1 = nI (L + n) → (∀ j, j ≠ 1 → τ.1 1 j = σ.1 1 j) → τ.2.2 = σ.2.2 → (∀ k, k ≠ 2 → τ.2.1 k = σ.2.1 k) → (∀ i, i < L → τ.2.1 2 i = σ.2.1 2 i) → (∀ i, L ≤ i → i < L + n → τ.2.1 2 i = nI (byB x (n - 1 - (i - L)))) → Q none τ) : nh_E kX6_append 0 [some (.ref 1), some (.int (nI n)), some (.long x), none, none] [] σ Q := by
  have main : ∀ (j : Nat) (τ : nh_S), j ≤ n → (∀ k, k ≠ 1 → τ.1 k = σ.1 k) → τ.1 1 1 = nI (L + (n - j)) → (∀ j, j ≠ 1 → τ.1 1 j = σ.1 1 j) → τ.2.2 = σ.2.2 → (∀ k, k ≠ 2 → τ.2.1 k = σ.2.1 k) → (∀ i, i < L → τ.2.1 2 i = σ.2.1 2 i) → (∀ i, L ≤ i → i < L + (n - j) → τ.2.1 2 i = nI (byB x (n - 1 - (i - L)))) → nh_E kX6_append 5 [some (.ref 1), none, some (.long x), none, some (.int (nI j + (-1)))] [] τ Q := by
    intro j
    induction j with
    | zero =>
      intro τ hj t1 t2 t3 t4 t5 t6 t7
      exact sg_X6_append_5 _ _ ⟨fun _ => hQ τ t1 t2 t3 t4 t5 t6 t7, fun q => absurd (by decide) q⟩
    | succ j ih =>
      intro τ hj t1 t2 t3 t4 t5 t6 t7
      rw [pk_m1]
      refine sg_X6_append_5 _ _ ⟨fun q => absurd q (nI_pos (by omega)), fun _ => pk_le 600 (L + (n - (j + 1))) (fun c => by omega) (fun c => ⟨pk_in (L + (n - (j + 1))) 600 c t2, ?_⟩) rfl t2⟩
      rw [t2, nI_1, pk_cl (L + (n - (j + 1))) rfl (by omega), pk_vc, by_u x (by omega), pk_char, pk_tn (by have := byB_lt x j; omega), Nat.mod_eq_of_lt (by have := byB_lt x j; omega)]
      refine ih _ (by omega) (fun k hk => ?_) ?_ (fun i hi => ?_) ?_ (fun k hk => ?_) (fun i hi => ?_) (fun i hi hi2 => ?_)
      · rw [si_neK _ _ _ hk]; exact t1 k hk
      · rw [bs_geti, if_pos ⟨rfl, rfl⟩]; congr 1; omega
      · rw [bs_geti, if_neg (by omega)]; exact t3 i hi
      · exact t4
      · rw [bs_si2, wa_ne _ _ _ hk]; exact t5 k hk
      · rw [bs_si2, bs_get, if_neg (by omega)]; exact t6 i hi
      · rw [bs_si2, bs_get]
        by_cases e : i = L + (n - (j + 1))
        · rw [if_pos ⟨rfl, e⟩, show n - 1 - (i - L) = j by omega]
        · rw [if_neg (by omega)]; exact t7 i hi (by omega)
  refine sg_X6_append_0 _ _ ?_
  rw [Int32.sub_eq_add_neg]
  exact main n σ (Nat.le_refl _) (fun _ _ => rfl) (by rw [h1, Nat.sub_self]; rfl) (fun _ _ => rfl) rfl (fun _ _ => rfl) (fun _ _ => rfl) (fun i a b => by omega)
theorem c_feed {S : SP} {σ : nh_S} (hC : CR σ S) (hW : WF S) (x : Int32) (y : Int64) {Q : Option Value → nh_S → Prop} (hQ : ∀ τ, CR τ (nFeed S x y) → Q (some (.int (aFeed S x))) τ) : nh_E kX8_feed 0 [some (.ref 0), some (.int x), some (.long y), none] [] σ Q := by
  have hn := hW.2.2.2.2.2.1
  obtain ⟨g1, g2, g3⟩ := hC.2.2.2.2.2.2
  unfold nFeed aFeed at hQ
  refine sg_X8_feed_0 x y ?_
  rcases ix_cases x (n := 9) (by omega) with ⟨n, hn9, rfl, e⟩ | ⟨e, hx⟩
  · rw [e] at hQ
    dsimp only at hQ
    refine pk_lt n 1 (fun c => ?_) (fun c => ?_)
    · rw [if_pos (show n = 0 by omega), if_pos (show n = 0 by omega)] at hQ
      exact hQ σ hC
    · rw [if_neg (show ¬ n = 0 by omega), if_neg (show ¬ n = 0 by omega)] at hQ
      refine pk_le n 8 (fun _ => ?_) (fun c2 => by omega)
      rw [g1, nI_add]
      refine pk_le (sTn S + n) 600 (fun c2 => ?_) (fun c2 => ?_)
      · rw [if_pos c2, if_pos c2] at hQ
        refine c_append y g1 (by omega) c2 (fun τ t1 t2 t3 t4 t5 t6 t7 => ⟨rfl, ?_⟩)
        dsimp only
        rw [t2]
        refine hQ τ (CR_txt hC hW ⟨by rw [nFd_n]; exact t2, fun i hi => ?_, ?_⟩ t1 t5 t4 (fun t ht => nFd_ne S n y (by rintro rfl; exact ht (by decide)) (by rintro rfl; exact ht (by decide))))
        · rw [nFd_n] at hi
          rw [nFd_x]
          by_cases q : sTn S ≤ i
          · rw [if_pos ⟨q, hi⟩]; exact t7 i q hi
          · rw [if_neg (fun z => q z.1), t6 i (by omega)]; exact g2 i (by omega)
        · rw [t3 4 (by omega), show sFa (nFd S n y) = sFa S by unfold sFa; rw [nFd_ne S n y (by omega) (by omega)]]
          exact g3
      · rw [if_neg (show ¬ sTn S + n ≤ 600 by omega), if_neg (show ¬ sTn S + n ≤ 600 by omega)] at hQ
        exact hQ σ hC
  · rw [e] at hQ
    dsimp only at hQ
    have hq := hQ σ hC
    refine ⟨fun _ => hq, fun c1 => ⟨fun c2 => ?_, fun _ => hq⟩⟩
    exfalso
    obtain ⟨j, hj, ej⟩ := nI_of2 (x := x) (M := 8) (n := 8) (by decide) (fun q => c1 (by rw [Int32.lt_iff_toInt_lt] at q ⊢; rw [show (1 : Int32).toInt = 1 from rfl]; rw [show (0 : Int32).toInt = 0 from rfl] at q; omega)) c2
    exact hx j (by omega) ej
