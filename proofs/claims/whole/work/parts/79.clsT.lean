/-! THE CLASS: plan() -/
theorem isL.n {o : Nat} (h : isL o) : o ≠ 1 ∧ o ≠ 0 ∧ 27 ≤ o := by unfold isL at h; omega
theorem CRp.fx {σ τ : nh_S} {o n : Nat} {pa pb : Nat → Nat} (h : CRp σ o n pa pb) (ho : o ≠ 1) (g : frX σ τ) : CRp τ o n pa pb := by
  have e : τ.2.1 = σ.2.1 := by rw [g.1]
  unfold CRp
  rw [g.2 o ho, e]
  exact h
theorem c_isWoken {σ : nh_S} {o H y : Nat} {P : SP} (ho : isL o) (hC : CRp σ o (sPn P) (sPa P) (sPb P)) (hH : H ≤ 9) (hW : WW H P) (hy : y < 1000) {Q : Option Value → nh_S → Prop} (hQ : Q (some (.int (if wkn P y (sPn P) = true then 1 else 0))) σ) : nh_E kX4_isWoken 0 [some (.ref o), some (.int (nI y)), none] [] σ Q := by
  have h20 := hW.1
  refine sg_X4_isWoken_0 ho _ ?_
  have main : ∀ d i, i + d = sPn P → (∀ j, j < i → sPb P j ≠ y) → nh_E kX4_isWoken 2 [some (.ref o), some (.int (nI y)), some (.int (nI i))] [] σ Q := by
    intro d
    induction d with
    | zero =>
      intro i hi hj
      refine sg_X4_isWoken_2 ho _ _ (pk_le (sPn P) i (fun _ => ?_) (fun c => by omega) hC.1 rfl)
      rw [if_neg (fun q => by obtain ⟨j, h1, h2⟩ := wkn_iff.mp q; exact hj j (by omega) h2)] at hQ
      exact hQ
    | succ d ih =>
      intro i hi hj
      have hb := (hW.2.1 i (by omega)).2.1
      refine sg_X4_isWoken_2 ho _ _ (pk_le (sPn P) i (fun c => by omega) (fun _ => ⟨pk_in i 20 (by omega), ?_⟩) hC.1 rfl)
      rw [pk_cl i rfl (by omega), (hC.2 i (by omega)).2, nI_1, nI_eq (by omega) (by omega)]
      refine ⟨fun c => ih (i + 1) (by omega) (fun j hj2 => ?_), fun c => ?_⟩
      · rcases (show j < i ∨ j = i by omega) with q | rfl
        · exact hj j q
        · exact c
      · rw [if_pos (wkn_iff.mpr ⟨i, by omega, c⟩)] at hQ
        exact hQ
  exact main (sPn P) 0 (Nat.zero_add _) (fun j hj => by omega)
def tkWk (T : Nat → Nat) (n H : Nat) (P : SP) (s a : Nat) : Rs SP := if 20 ≤ sPn P then .error (3, s) else rb (tkN T n 0 H a) (fun x e => rb (tkN T n 0 H e) (fun y e2 => if x.1 = y.1 ∨ wkn P y.1 (sPn P) = true then .error (4, y.2) else rb (tkE T n e2) (fun _ e3 => .ok (nWake P x.1 y.1, e3))))
theorem nWake_CRp {σ : nh_S} {o : Nat} {P : SP} (ho : isL o) (hC : CRp σ o (sPn P) (sPa P) (sPb P)) {x y : Nat} : CRp (nh_si (nh_wa (nh_wa σ (o + 1) (sPn P) (nI x)) (o + 2) (sPn P) (nI y)) o 0 (nI (sPn P + 1))) o (sPn (nWake P x y)) (sPa (nWake P x y)) (sPb (nWake P x y)) := by
  refine ⟨by rw [bs_geti, if_pos ⟨rfl, rfl⟩, nWake_n], fun i hi => ?_⟩
  rw [nWake_n] at hi
  rw [nWake_a, nWake_b, bs_si2, bs_get, if_neg (by omega), bs_get, bs_get]
  by_cases e : i = sPn P
  · rw [if_pos e, if_pos e, if_pos (show o + 1 = o + 1 ∧ i = sPn P from ⟨rfl, e⟩), if_pos (show o + 2 = o + 2 ∧ i = sPn P from ⟨rfl, e⟩)]
    exact ⟨rfl, rfl⟩
  · rw [if_neg e, if_neg e, if_neg (show ¬ (o + 1 = o + 1 ∧ i = sPn P) from fun q => e q.2), if_neg (show ¬ (o + 2 = o + 2 ∧ i = sPn P) from fun q => e q.2), wa_ne _ _ _ (show o + 2 ≠ o + 1 by omega)]
    exact hC.2 i (by omega)
set_option maxHeartbeats 1000000 in
theorem c_learnWake {σ : nh_S} {T : Nat → Nat} {n a s o H : Nat} {P : SP} (ho : isL o) (hg : gd σ T n a) (hs : σ.1 1 2 = nI s) (hC : CRp σ o (sPn P) (sPa P) (sPb P)) (hH : H ≤ 9) (hW : WW H P) {Q : Option Value → nh_S → Prop}
    (hQb : ∀ z, tkWk T n H P s a = .error z → ∀ τ, frO o 2 σ τ → bq τ T n z → Q none τ)
    (hQo : ∀ P2 e, tkWk T n H P s a = .ok (P2, e) → ∀ τ, frO o 2 σ τ → gd τ T n e → CRp τ o (sPn P2) (sPa P2) (sPb P2) → WW H P2 → Q none τ) : nh_E kX4_learnWake 0 [some (.ref o), some (.ref 1), some (.int (nI H)), none, none] [] σ Q := by
  have hn := ho.n
  have h20 := hW.1
  refine sg_X4_learnWake_0 ho _ (pk_lt (sPn P) 20 (fun c => ?_) (fun c => ?_) hC.1 rfl)
  · have eT : tkWk T n H P s a = rb (tkN T n 0 H a) (fun x e => rb (tkN T n 0 H e) (fun y e2 => if x.1 = y.1 ∨ wkn P y.1 (sPn P) = true then .error (4, y.2) else rb (tkE T n e2) (fun _ e3 => .ok (nWake P x.1 y.1, e3)))) := by unfold tkWk; rw [if_neg (by omega)]
    have tailf : ∀ (r3 r6 : Int32) (υ : nh_S) (z : Nat × Nat), frX σ υ → bq υ T n z → tkWk T n H P s a = .error z → nh_E kX6_endClause 0 [some (.ref 1)] [] υ (nh_qv fun τ9 => (vp_in (τ9.1 o 0) 20) ∧ Q none (nh_si (nh_wa (nh_wa τ9 (o + 1) ((τ9.1 o 0).toNatClampNeg) r3) (o + 2) ((τ9.1 o 0).toNatClampNeg) r6) o 0 ((τ9.1 o 0) + 1))) := by
      intro r3 r6 υ z u1 u2 u3
      refine c_endClause_f u2 (fun ρ r1 r2 => ⟨rfl, pk_in (sPn P) 20 c ?_, hQb z u3 _ (((((u1.tr r1).O o 2).wa _ _ (by omega)).wa _ _ (by omega)).si _ _ (by omega)) (((r2.wa _ _ (by omega)).wa _ _ (by omega)).so _ _ hn.1)⟩)
      rw [(u1.tr r1).2 o hn.1]
      exact hC.1
    refine c_takeNumber (lo := 0) (hi := H) hg (by omega) (by omega) rfl (fun z hz τ t1 t2 => ⟨_, rfl, ?_⟩) (fun x e hx τ t1 t2 t3 => ⟨_, rfl, ?_⟩)
    · refine c_takeNumber_f t2.1 _ _ ⟨_, rfl, fun _ => ?_, fun q => absurd q t2.1.ne⟩
      exact tailf _ _ τ z t1 t2 (by rw [eT, hz]; rfl)
    · refine c_takeNumber (lo := 0) (hi := H) t2 (by omega) (by omega) rfl (fun z hz υ u1 u2 => ⟨_, rfl, fun _ => ?_, fun q => absurd q u2.1.ne⟩) (fun y e2 hy υ u1 u2 u3 => ⟨_, rfl, fun q => absurd u2.1.1 q, fun _ => ?_⟩)
      · exact tailf _ _ υ z (t1.tr u1) u2 (by rw [eT, hx, rb_ok, hz]; rfl)
      · have kx := tkN_ok hx
        have ky := tkN_ok hy
        have fu := t1.tr u1
        have blame : (x.1 = y.1 ∨ wkn P y.1 (sPn P) = true) → nh_E kX6_blame 0 [some (.ref 1), some (.int 4), some (.int (υ.1 1 2))] [] υ (nh_qv fun τ14 => nh_E kX6_endClause 0 [some (.ref 1)] [] τ14 (nh_qv fun τ17 => (vp_in (τ17.1 o 0) 20) ∧ Q none (nh_si (nh_wa (nh_wa τ17 (o + 1) ((τ17.1 o 0).toNatClampNeg) (nI x.1)) (o + 2) ((τ17.1 o 0).toNatClampNeg) (nI y.1)) o 0 ((τ17.1 o 0) + 1)))) := by
          intro hne
          rw [u3]
          refine c_blame (c := 4) u2 (by omega) (by omega) (fun ξ x1 x2 => ⟨rfl, ?_⟩)
          exact tailf _ _ ξ _ (fu.tr x1) x2 (by rw [eT, hx, rb_ok, hy, rb_ok, if_pos hne])
        refine pk_eq x.1 y.1 (fun c1 => blame (Or.inl c1)) (fun c1 => ?_)
        refine c_isWoken ho (hC.fx hn.1 fu) hH hW (by omega) ⟨_, rfl, ?_⟩
        by_cases c2 : wkn P y.1 (sPn P) = true
        · rw [if_pos c2]
          exact ⟨fun q => absurd q (by decide), fun _ => blame (Or.inr c2)⟩
        · rw [if_neg c2]
          have hne : ¬ (x.1 = y.1 ∨ wkn P y.1 (sPn P) = true) := fun q => q.elim c1 c2
          refine ⟨fun _ => ?_, fun q => absurd rfl q⟩
          refine c_endClause u2 (fun z hz ρ r1 r2 => ⟨rfl, pk_in (sPn P) 20 c ?_, hQb z ?_ _ (((((fu.tr r1).O o 2).wa _ _ (by omega)).wa _ _ (by omega)).si _ _ (by omega)) (((r2.wa _ _ (by omega)).wa _ _ (by omega)).so _ _ hn.1)⟩) (fun e3 he ρ r1 r2 => ⟨rfl, pk_in (sPn P) 20 c ?_, ?_⟩)
          · rw [(fu.tr r1).2 o hn.1]; exact hC.1
          · rw [eT, hx, rb_ok, hy, rb_ok, if_neg hne, hz]; rfl
          · rw [(fu.tr r1).2 o hn.1]; exact hC.1
          · have hCr := hC.fx hn.1 (fu.tr r1)
            rw [hCr.1, nI_1, pk_cl (sPn P) rfl (by omega)]
            exact hQo (nWake P x.1 y.1) e3 (by rw [eT, hx, rb_ok, hy, rb_ok, if_neg hne, he]; rfl) _ (((((fu.tr r1).O o 2).wa _ _ (by omega)).wa _ _ (by omega)).si _ _ (by omega)) (((r2.wa _ _ (by omega)).wa _ _ (by omega)).so _ _ hn.1) (nWake_CRp ho hCr) (nWake_WW hW kx.2.1 ky.2.1 c1 (by omega) c2)
  · rw [hs]
    exact c_blame (c := 3) hg (by omega) (by omega) (fun τ t1 t2 => ⟨rfl, hQb _ (by unfold tkWk; rw [if_pos c]) τ (t1.O o 2) t2⟩)
theorem tkW_eq (T : Nat → Nat) (n H : Nat) (P : SP) (a : Nat) : tkW T n H P a = if wd T n a (wl 4) = true then tkWk T n H P (sk T n a) (lte T n (sk T n a)) else .error (1, sk T n a) := rfl
set_option maxHeartbeats 1000000 in
theorem c_plan_go {σ : nh_S} {T : Nat → Nat} {n o H : Nat} (ho : isL o) (hH : H ≤ 9) {W0 : Rs SP} {Q : Option Value → nh_S → Prop} (hQb : ∀ z τ, W0 = .error z → frO o 2 σ τ → bq τ T n z → Q none τ)
    (hQo : ∀ P e τ, W0 = .ok (P, e) → WW H P → frO o 2 σ τ → gd τ T n e → CRp τ o (sPn P) (sPa P) (sPb P) → Q none τ) :
    ∀ (fu i a : Nat) (P : SP) (τ : nh_S), i + fu = 600 → frO o 2 σ τ → gd τ T n a → CRp τ o (sPn P) (sPa P) (sPb P) → WW H P → tkP T n H fu P a = W0 → nh_E kX4_learn 7 [some (.ref o), some (.ref 1), some (.int (nI H)), some (.int (nI i))] [] τ Q := by
  have hn := ho.n
  intro fu
  induction fu with
  | zero =>
    intro i a P τ hi t1 t2 t3 hW hw
    exact sg_X4_learn_7 ho _ _ (pk_le 600 i (fun _ => hQo P a τ hw.symm hW t1 t2 t3) (fun c => by omega))
  | succ fu ih =>
    intro i a P τ hi t1 t2 t3 hW hw
    refine sg_X4_learn_7 ho _ _ (pk_le 600 i (fun c => by omega) (fun _ => ?_))
    rw [nI_1]
    refine c_goesOn t2 (fun υ u1 u2 => ⟨_, rfl, ?_⟩)
    by_cases c : sk T n a < n
    · rw [if_pos c]
      refine ⟨fun q => absurd q (by decide), fun _ => ?_⟩
      rw [tkP, if_pos c] at hw
      have hC := t3.fx hn.1 u1
      have f1 : frO o 2 σ υ := t1.tr (u1.O o 2)
      have bad : ∀ z ξ, tkW T n H P a = .error z → frO o 2 σ ξ → bq ξ T n z → nh_E kX4_learn 7 [some (.ref o), some (.ref 1), some (.int (nI H)), some (.int (nI (i + 1)))] [] ξ Q := by
        intro z ξ hz x1 x2
        rw [hz, rb_bad] at hw
        refine sg_X4_learn_7 ho _ _ ⟨fun _ => hQb z ξ hw.symm x1 x2, fun _ => ?_⟩
        exact c_goesOn_f x2 (fun ρ r1 r2 => ⟨_, rfl, fun _ => hQb z ρ hw.symm (x1.tr (r1.O o 2)) r2, fun q => absurd rfl q⟩)
      have eC := tkW_eq T n H P a
      refine c_takesWord (t := 4) (by omega) u2 (fun hw1 ξ x1 x2 x3 => ⟨_, rfl, fun q => absurd q (by decide), fun _ => ?_⟩) (fun hw1 ξ x1 x2 => ⟨_, rfl, fun _ => ?_, fun q => absurd rfl q⟩)
      · rw [wd_sk] at hw1
        rw [sk_sk] at x2 x3
        rw [if_pos hw1] at eC
        refine c_learnWake ho x2 x3 (hC.fx hn.1 x1) hH hW (fun z hz ρ r1 r2 => ⟨rfl, bad z ρ (eC.trans hz) ((f1.tr (x1.O o 2)).tr r1) r2⟩) (fun P2 e hz ρ r1 r2 r3 r4 => ⟨rfl, ?_⟩)
        rw [eC, hz, rb_ok] at hw
        exact ih (i + 1) e P2 ρ (by omega) ((f1.tr (x1.O o 2)).tr r1) r2 r3 r4 hw
      · rw [wd_sk] at hw1
        rw [sk_sk] at x2
        rw [if_neg hw1] at eC
        refine c_blameHere x2 (fun κ k1 k2 => ⟨rfl, ?_⟩)
        rw [sk_sk] at k2
        exact bad _ κ eC ((f1.tr (x1.O o 2)).tr (k1.O o 2)) k2
    · rw [if_neg c]
      refine ⟨fun _ => ?_, fun q => absurd rfl q⟩
      rw [tkP, if_neg c] at hw
      exact hQo P _ υ hw.symm hW (t1.tr (u1.O o 2)) u2 (t3.fx hn.1 u1)
theorem CR_pln {σ τ ω : nh_S} {S P : SP} {o : Nat} (hC : CR σ S) (hW : WF S) (ho : isM o) (hf : frO o 2 σ τ) (hne : o ≠ σ.2.2 0 13) (hs : csnd τ) (hP : CRp τ o (sPn P) (sPa P) (sPb P)) (A1 : ω.2.2 0 11 = σ.2.2 0 11) (A2 : ω.2.2 0 12 = σ.2.2 0 12) (A3 : ω.2.2 0 13 = o) (A4 : ω.2.2 0 14 = σ.2.2 0 13) (A5 : ∀ k, k ≠ 1 → ω.1 k = τ.1 k) (A6 : ω.1 1 1 = 0) (A7 : ω.1 1 4 = τ.1 1 4) (A8 : ω.2.1 = τ.2.1) : CR ω (nPln S P) := by
  obtain ⟨h1, h2, h3, h4, h5, h6, h7⟩ := hC
  have hp := h1.1
  unfold isP at hp
  have hl := h1.2.2.2.1
  have ho2 := ho
  unfold isM at hl ho2
  have t : ∀ x, x ∉ [16, 17, 18, 19, 21] → nPln S P x = S x := fun x hx => by funext i j; simp at hx; unfold nPln; rw [if_neg (by simp; omega), if_neg (by omega)]
  have tp : ∀ x, x ∈ [16, 17, 18] → nPln S P x = P x := fun x hx => by funext i j; unfold nPln; rw [if_pos hx]
  have z19 : sTn (nPln S P) = 0 := by simp [sTn, nPln]
  have z21 : sFa (nPln S P) = 0 := by simp [sFa, nPln]
  have a1 : ∀ k, k ≠ 1 → (k < o ∨ o + 2 < k) → ω.1 k = σ.1 k := fun k hk q => by rw [A5 k hk]; exact (hf.1 k hk q).1
  have a2 : ∀ k, k ≠ 1 → (k < o ∨ o + 2 < k) → ω.2.1 k = σ.2.1 k := fun k hk q => by rw [A8]; exact (hf.1 k hk q).2
  refine ⟨?_, ?_, CRm_tr h3 (a2 4 (by omega) (by omega)) (a2 5 (by omega) (by omega)) (a1 3 (by omega) (by omega)) (t 1 (by decide)) (t 9 (by decide)) (t 10 (by decide)) (t 11 (by decide)) (t 12 (by decide)), ?_, CRx_tr h5 (a2 30 (by omega) (by omega)) (a2 31 (by omega) (by omega)) (by rw [a1 0 (by omega) (by omega)]) (t 1 (by decide)) (t 13 (by decide)) (t 14 (by decide)) (t 15 (by decide)), CRi_tr h6 (fun k k1 k2 => ⟨a1 k (by omega) (by omega), a2 k (by omega) (by omega)⟩) (t 1 (by decide)) (t 22 (by decide)) (t 23 (by decide)) (t 24 (by decide)) (t 25 (by decide)) (t 26 (by decide)), ?_⟩
  · unfold CRr
    rw [A1, A2, A3, A4]
    exact ⟨h1.1, h1.2.1, h1.2.2.1, ho, h1.2.2.2.1, fun q => hne q.symm⟩
  · rw [A1]
    exact CRc_tr h2 hW.1 (a1 _ (by omega) (by omega)) (fun k k1 k2 => a2 k (by omega) (by omega)) (fun x h => t x (by simp; omega))
  · rw [A3]
    unfold sPn sPa sPb
    rw [tp 16 (by decide), tp 17 (by decide), tp 18 (by decide)]
    unfold CRp
    rw [A5 o (by omega), A8]
    exact hP
  · unfold CRt
    rw [z19, z21, if_pos rfl]
    exact ⟨A6, fun i hi => absurd hi (Nat.not_lt_zero _), by rw [A7]; exact hs.2⟩
set_option maxHeartbeats 1000000 in
theorem c_plan {S : SP} {σ : nh_S} (hC : CR σ S) (hW : WF S) {Q : Option Value → nh_S → Prop} (hQ : ∀ τ, CR τ (nPlan S) → Q (some (.int (aPlan S))) τ) : nh_E kX8_plan 0 [some (.ref 0), none] [] σ Q := by
  unfold nPlan aPlan at hQ
  have hn := hW.2.2.2.2.2.1
  obtain ⟨p1, p2, p3, p4, p5, p6⟩ := hC.1
  have n1 := p1
  unfold isP at n1
  have n4 := p4
  have n5 := p5
  unfold isM at n4 n5
  refine sg_X8_plan_0 (pk_le (sTn S) 200 (fun c => ?_) (fun c => ?_) hC.2.2.2.2.2.2.1 rfl)
  · rw [if_pos c, if_pos c] at hQ
    refine c_txBegin hC hW (fun τ t1 t2 => ⟨rfl, ?_⟩)
    dsimp only
    rw [show τ.2.2 = σ.2.2 by rw [t1.1], t1.2 (σ.2.2 0 11) (by omega), hC.2.1.1]
    refine ⟨p5.L, p1, ?_⟩
    generalize ho : σ.2.2 0 14 = o at *
    refine sg_X4_learn_0 p5.L _ ?_
    refine c_plan_go (σ := σ) (W0 := tkP (sTx S) (sTn S) (sH S) 600 P0 0) p5.L hW.1.1 (fun z ξ hw x1 x2 => ⟨rfl, ?_⟩) (fun P e ξ hw hWP x1 x2 x3 => ⟨rfl, ?_⟩) 600 0 0 P0 _ rfl ((t1.O o 2).si _ _ (by omega)) (t2.so _ _ (by omega)) ⟨by rw [bs_geti, if_pos ⟨rfl, rfl⟩]; rfl, fun i hi => absurd hi (Nat.not_lt_zero _)⟩ (WW_0 _) rfl
    · refine ⟨fun q => absurd q x2.1.ne, fun _ => ?_⟩
      rw [hw] at hQ
      rw [x2.1.1]
      exact hQ _ (CR_bad hC hW x1 (fun k hk => by omega) x2.1)
    · refine ⟨fun _ => ?_, fun q => absurd x2.1.1 q⟩
      rw [hw] at hQ
      dsimp only at hQ ⊢
      have er : ξ.2.2 = σ.2.2 := x1.2
      rw [er, ho, si_neK _ _ _ (by omega), x3.1]
      refine ⟨p4.L, p5.L, ?_⟩
      refine hQ _ (CR_pln hC hW p5 x1 p6 x2.1 x3 ?_ ?_ ?_ ?_ (fun k hk => ?_) ?_ ?_ ?_)
      · rw [bs_getr, if_neg (by omega), bs_getr, if_neg (by omega), bs_si2, er]
      · rw [bs_getr, if_neg (by omega), bs_getr, if_neg (by omega), bs_si2, er]
      · rw [bs_getr, if_neg (by omega), bs_getr, if_pos ⟨rfl, rfl⟩]
      · rw [bs_getr, if_pos ⟨rfl, rfl⟩]
      · rw [bs_sr1, bs_sr1, si_neK _ _ _ hk]
      · rw [bs_sr1, bs_sr1, bs_geti, if_pos ⟨rfl, rfl⟩]
      · rw [bs_sr1, bs_sr1, bs_geti, if_neg (by omega)]
      · rw [bs_sr2, bs_sr2, bs_si2]
  · rw [if_neg (show ¬ sTn S ≤ 200 by omega), if_neg (show ¬ sTn S ≤ 200 by omega)] at hQ
    exact hQ σ hC
