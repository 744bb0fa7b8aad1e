/-! THE CLASS: parish() -/
theorem tkC_sk (T : Nat → Nat) (n : Nat) (P : SP) (a : Nat) : tkC T n P (sk T n a) = tkC T n P a := by
  unfold tkC wd
  rw [sk_sk]
theorem wd_sk (T : Nat → Nat) (n a : Nat) (w : List Nat) : wd T n (sk T n a) w = wd T n a w := by
  unfold wd
  rw [sk_sk]
theorem c_learn_f {T : Nat → Nat} {n o h : Nat} {z : Nat × Nat} (ho : isP o) (hh : h ≤ 9) {σ : nh_S} (hb : bq σ T n z) (h0 : σ.1 o 0 = nI h) (i : Nat) {Q : Option Value → nh_S → Prop} (hQ : ∀ τ, frO o 21 σ τ → bq τ T n z → Q none τ) : nh_E kX3_learn 6 [some (.ref o), some (.ref 1), some (.int (nI i))] [] σ Q := by
  have hn := ho.n
  have fin : ∀ τ, frX σ τ → bq τ T n z → nh_E kX3_shortenWays 0 [some (.ref o), none, none, none] [] τ (nh_qv fun τ2 => Q none τ2) := by
    intro τ t1 t2
    refine c_shorten_f ho hh (by rw [t1.2 o hn.1]; exact h0) (fun υ u => ⟨rfl, hQ υ ((t1.O o 21).tr u.O) ⟨⟨by rw [u.1]; exact t2.1.1, by rw [u.1]; exact t2.1.2.1, t2.1.2.2⟩, t2.2.imp fun _ g => u.tx ho g⟩⟩)
  refine sg_X3_learn_6 ho _ ⟨fun _ => fin σ (frX.rf σ) hb, fun _ => ?_⟩
  exact c_goesOn_f hb (fun τ t1 t2 => ⟨_, rfl, fun _ => fin τ t1 t2, fun q => absurd rfl q⟩)
set_option maxHeartbeats 1000000 in
theorem c_learn_go {σ : nh_S} {T : Nat → Nat} {n o : Nat} (ho : isP o) {W0 : Rs SP} {Q : Option Value → nh_S → Prop} (hQb : ∀ z τ, W0 = .error z → frO o 21 σ τ → bq τ T n z → Q none τ)
    (hQo : ∀ P e τ, W0 = .ok (P, e) → WQ P → frO o 21 σ τ → gd τ T n e → τ.1 o 0 = nI (sH P) → τ.1 o 1 = nI (sP P) → (∃ υ, CQ υ o P ∧ shf o υ τ) → (∀ a b, a < sH P → b < sH P → τ.2.1 (o + 9 + a) b = nI (fl P (sH P) a b)) → Q none τ) :
    ∀ (fu i a : Nat) (P : SP) (τ : nh_S), i + fu = 600 → frO o 21 σ τ → gd τ T n a → CQ τ o P → WQ P → tkAll T n fu P a = W0 → nh_E kX3_learn 6 [some (.ref o), some (.ref 1), some (.int (nI i))] [] τ Q := by
  have hn := ho.n
  have fin : ∀ P e τ, W0 = .ok (P, e) → WQ P → frO o 21 σ τ → gd τ T n e → CQ τ o P → nh_E kX3_shortenWays 0 [some (.ref o), none, none, none] [] τ (nh_qv fun τ2 => Q none τ2) := by
    intro P e τ hw hW t1 t2 t3
    refine c_shorten ho hW t3.1 t3.2.2.2.2 (fun υ u1 u2 => ⟨rfl, hQo P e υ hw hW (t1.tr u1.O) ⟨⟨by rw [u1.1]; exact t2.1.1, by rw [u1.1]; exact t2.1.2⟩, u1.tx ho t2.2⟩ (by rw [u1.1]; exact t3.1) (by rw [u1.1]; exact t3.2.1) ⟨τ, t3, u1⟩ u2⟩)
  intro fu
  induction fu with
  | zero =>
    intro i a P τ hi t1 t2 t3 hW hw
    refine sg_X3_learn_6 ho _ (pk_le 600 i (fun _ => ?_) (fun c => by omega))
    exact fin P a τ hw.symm hW t1 t2 t3
  | succ fu ih =>
    intro i a P τ hi t1 t2 t3 hW hw
    have hle := t2.2.2.2.2.2
    refine sg_X3_learn_6 ho _ (pk_le 600 i (fun c => by omega) (fun _ => ?_))
    rw [nI_1]
    refine c_goesOn t2 (fun υ u1 u2 => ⟨_, rfl, ?_⟩)
    by_cases c : sk T n a < n
    · rw [if_pos c]
      refine ⟨fun q => absurd q (by decide), fun _ => ?_⟩
      rw [tkAll, if_pos c] at hw
      have hC := t3.fx ho u1
      have f1 : frO o 21 σ υ := t1.tr (u1.O o 21)
      have s2 := u2.2.2.2.2.2
      -- a clause with a FAULT; a sound one
      have bad : ∀ z ξ h, tkC T n P a = .error z → frO o 21 σ ξ → bq ξ T n z → ξ.1 o 0 = nI h → h ≤ 9 → nh_E kX3_learn 6 [some (.ref o), some (.ref 1), some (.int (nI (i + 1)))] [] ξ Q := by
        intro z ξ h hz x1 x2 x3 x4
        rw [hz, rb_bad] at hw
        exact c_learn_f ho x4 x2 x3 (i + 1) (fun ρ r1 r2 => hQb z ρ hw.symm (x1.tr r1) r2)
      have good : ∀ P2 e ξ, tkC T n P a = .ok (P2, e) → frO o 21 σ ξ → gd ξ T n e → CQ ξ o P2 → nh_E kX3_learn 6 [some (.ref o), some (.ref 1), some (.int (nI (i + 1)))] [] ξ Q := by
        intro P2 e ξ hz x1 x2 x3
        have hW2 := tkC_WQ hW hz
        rw [hz, rb_ok] at hw
        exact ih (i + 1) e P2 ξ (by omega) x1 x2 x3 hW2 hw
      have eC : tkC T n P a = if wd T n a (wl 0) = true then tkHouse T n P (sk T n a) (lte T n (sk T n a)) else if wd T n a (wl 1) = true then tkWay T n P (lte T n (sk T n a)) else if wd T n a (wl 2) = true then tkPart T n P (sk T n a) (lte T n (sk T n a)) else .error (1, sk T n a) := rfl
      refine c_takesWord (t := 0) (by omega) u2 (fun hw1 ξ x1 x2 x3 => ⟨_, rfl, fun q => absurd q (by decide), fun _ => ?_⟩) (fun hw1 ξ x1 x2 => ⟨_, rfl, fun _ => ?_, fun q => absurd rfl q⟩)
      · rw [wd_sk] at hw1
        rw [sk_sk] at x2 x3
        rw [if_pos hw1] at eC
        exact c_learnHouse ho x2 x3 (hC.fx ho x1) hW (fun z hz ρ h r1 r2 r3 r4 => ⟨rfl, bad z ρ h (eC.trans hz) ((f1.tr (x1.O o 21)).tr r1) r2 r3 r4⟩) (fun P2 e hz ρ r1 r2 r3 => ⟨rfl, good P2 e ρ (eC.trans hz) ((f1.tr (x1.O o 21)).tr r1) r2 r3⟩)
      · rw [wd_sk] at hw1
        rw [sk_sk] at x2
        rw [if_neg hw1] at eC
        refine c_takesWord (t := 1) (by omega) x2 (fun hw2 ρ r1 r2 r3 => ⟨_, rfl, fun q => absurd q (by decide), fun _ => ?_⟩) (fun hw2 ρ r1 r2 => ⟨_, rfl, fun _ => ?_, fun q => absurd rfl q⟩)
        · rw [wd_sk] at hw2
          rw [sk_sk] at r2
          rw [if_pos hw2] at eC
          have f2 := (f1.tr (x1.O o 21)).tr (r1.O o 21)
          have hC2 := (hC.fx ho x1).fx ho r1
          exact c_learnWay ho r2 hC2 hW (fun z hz ω w1 w2 w3 => ⟨rfl, bad z ω (sH P) (eC.trans hz) (f2.tr w1) w2 w3 hW.1⟩) (fun P2 e hz ω w1 w2 w3 => ⟨rfl, good P2 e ω (eC.trans hz) (f2.tr w1) w2 w3⟩)
        · rw [wd_sk] at hw2
          rw [sk_sk] at r2
          rw [if_neg hw2] at eC
          have f2 := (f1.tr (x1.O o 21)).tr (r1.O o 21)
          have hC2 := (hC.fx ho x1).fx ho r1
          refine c_takesWord (t := 2) (by omega) r2 (fun hw3 ω w1 w2 w3 => ⟨_, rfl, fun q => absurd q (by decide), fun _ => ?_⟩) (fun hw3 ω w1 w2 => ⟨_, rfl, fun _ => ?_, fun q => absurd rfl q⟩)
          · rw [wd_sk] at hw3
            rw [sk_sk] at w2 w3
            rw [if_pos hw3] at eC
            exact c_learnPart ho w2 w3 (hC2.fx ho w1) hW (fun z hz κ k1 k2 k3 => ⟨rfl, bad z κ (sH P) (eC.trans hz) ((f2.tr (w1.O o 21)).tr k1) k2 k3 hW.1⟩) (fun P2 e hz κ k1 k2 k3 => ⟨rfl, good P2 e κ (eC.trans hz) ((f2.tr (w1.O o 21)).tr k1) k2 k3⟩)
          · rw [wd_sk] at hw3
            rw [sk_sk] at w2
            rw [if_neg hw3] at eC
            refine c_blameHere w2 (fun κ k1 k2 => ⟨rfl, ?_⟩)
            rw [sk_sk] at k2
            exact bad _ κ (sH P) eC ((f2.tr (w1.O o 21)).tr (k1.O o 21)) k2 (by rw [(w1.tr k1).2 o hn.1]; exact hC2.1) hW.1
    · rw [if_neg c]
      refine ⟨fun _ => ?_, fun q => absurd rfl q⟩
      rw [tkAll, if_neg c] at hw
      exact fin P _ υ hw.symm hW (t1.tr (u1.O o 21)) u2 (t3.fx ho u1)
theorem c_begin {σ : nh_S} {o1 : Nat} {P : SP} (ho1 : isP o1) (hp : sP P ≤ 12) (h1 : σ.1 o1 1 = nI (sP P)) (h18 : ∀ p, p < sP P → σ.2.1 (o1 + 18) p = nI (sKp P p)) {Q : Option Value → nh_S → Prop} (hQ : ∀ τ, frC [3, 4, 5] σ τ → (∀ j, j ≠ 2 → τ.1 3 j = σ.1 3 j) → τ.1 3 2 = 0 → (∀ p, p < sP P → τ.2.1 4 p = nI (sKp P p)) → (∀ p, p < 12 → τ.2.1 5 p = nI (2 ^ p)) → Q none τ) : nh_E kX2_begin 0 [some (.ref 3), some (.ref o1), none] [] σ Q := by
  have hn := ho1.n
  refine sg_X2_begin_0 isN_3 ho1 ?_
  refine nh_loop (α := nh_S) (fun p τ => nh_E kX2_begin 7 [some (.ref 3), some (.ref o1), some (.int (nI p))] [] τ Q) (fun n τ => frC [3, 4, 5] σ τ ∧ (∀ j, j ≠ 2 → τ.1 3 j = σ.1 3 j) ∧ τ.1 3 2 = 0 ∧ (∀ p, p < n → p < sP P → τ.2.1 4 p = nI (sKp P p)) ∧ ∀ p, p < n → τ.2.1 5 p = nI (2 ^ p)) 12 ?_ ?_ 12 0 _ (Nat.zero_add _) ⟨(frC.rf _ σ).si _ _ (by decide), fun j hj => by rw [bs_geti, if_neg (by omega)], by rw [bs_geti, if_pos ⟨rfl, rfl⟩], fun p hp => by omega, fun p hp => by omega⟩
  · rintro τ ⟨t1, t2, t3, t4, t5⟩
    exact sg_X2_begin_7 isN_3 ho1 _ (pk_le 12 12 (fun _ => hQ τ t1 t2 t3 (fun p hp2 => t4 p (by omega) hp2) t5) (fun c => by omega))
  · rintro p τ hp12 ⟨t1, t2, t3, t4, t5⟩ ih
    have e1 : τ.1 o1 1 = nI (sP P) := by rw [(t1.1 o1 (by simp; omega)).1]; exact h1
    refine sg_X2_begin_7 isN_3 ho1 _ (pk_le 12 p (fun c => by omega) (fun _ => ⟨fun _ => pk_in p 12 hp12, pk_in p 12 hp12, ?_⟩))
    rw [nI_1, pk_cl p rfl (by omega), e1, bs_shl (by omega), (t1.1 (o1 + 18) (by first | (simp; done) | (simp; omega))).2]
    refine ih _ ⟨(t1.wa _ _ (by decide)).wa _ _ (by decide), t2, t3, fun q hq hq2 => ?_, fun q hq => ?_⟩
    · rw [bs_get, if_neg (by omega), bs_get]
      by_cases e : q = p
      · subst e
        rw [if_pos ⟨rfl, rfl⟩, if_neg (nI_ge hq2 (by omega))]
        exact h18 q hq2
      · rw [if_neg (by omega)]
        exact t4 q (by omega) hq2
    · rw [bs_get]
      by_cases e : q = p
      · rw [if_pos ⟨rfl, e⟩, e]
      · rw [if_neg (by omega), bs_get, if_neg (by omega)]
        exact t5 q (by omega)
/-- what a new parish leaves -/
theorem c_startAnew {σ : nh_S} {P : SP} (hr : CRr σ) (hp : sP P ≤ 12) (h1 : σ.1 (σ.2.2 0 11) 1 = nI (sP P)) (h18 : ∀ p, p < sP P → σ.2.1 (σ.2.2 0 11 + 18) p = nI (sKp P p)) {Q : Option Value → nh_S → Prop} (hQ : ∀ τ, τ.2.2 = σ.2.2 → (∀ k, ¬ (k = 0 ∨ k = 3 ∨ k = 4 ∨ k = 5 ∨ k = 6 ∨ k = 9) → k ≠ σ.2.2 0 13 → τ.1 k = σ.1 k) → (∀ k, ¬ (k = 3 ∨ k = 4 ∨ k = 5 ∨ k = 30 ∨ k = 31) → τ.2.1 k = σ.2.1 k) → τ.1 (σ.2.2 0 13) 0 = 0 → τ.1 3 3 = σ.1 3 3 → τ.1 3 2 = 0 → (∀ p, p < sP P → τ.2.1 4 p = nI (sKp P p)) → (∀ p, p < 12 → τ.2.1 5 p = nI (2 ^ p)) → τ.1 6 4 = 0 → τ.1 9 4 = 0 → (∀ p, p < 12 → τ.2.1 30 p = 10) → (∀ p, p < 12 → τ.2.1 31 p = -1) → τ.1 0 16 = 0 → Q none τ) : nh_E kX8_startAnew 0 [some (.ref 0)] [] σ Q := by
  have hl := hr.2.2.2.1
  have hl2 := hl
  unfold isM at hl2
  have hn := hr.1.n
  have hpp := hr.1
  unfold isP at hpp
  refine sg_X8_startAnew_0 ⟨hl.L, hr.1, ?_⟩
  have p2 : (nh_si σ (σ.2.2 0 13) 0 0).2 = σ.2 := rfl
  have p0 : (nh_si σ (σ.2.2 0 13) 0 0).1 (σ.2.2 0 13) 0 = 0 := by rw [bs_geti, if_pos ⟨rfl, rfl⟩]
  have pk : ∀ k, k ≠ σ.2.2 0 13 → (nh_si σ (σ.2.2 0 13) 0 0).1 k = σ.1 k := fun k hk => si_neK _ _ _ hk
  generalize nh_si σ (σ.2.2 0 13) 0 0 = ρ at p2 p0 pk ⊢
  refine c_begin hr.1 hp (by rw [pk _ (by omega)]; exact h1) (fun p hp2 => by rw [p2]; exact h18 p hp2) (fun τ t1 t2 t3 t4 t5 => ⟨rfl, ?_⟩)
  dsimp only
  have q2 : (nh_si (nh_si τ 6 4 0) 9 4 0).2 = τ.2 := rfl
  have q6 : (nh_si (nh_si τ 6 4 0) 9 4 0).1 6 4 = 0 := by rw [si_neK _ _ _ (by omega), bs_geti, if_pos ⟨rfl, rfl⟩]
  have q9 : (nh_si (nh_si τ 6 4 0) 9 4 0).1 9 4 = 0 := by rw [bs_geti, if_pos ⟨rfl, rfl⟩]
  have qk : ∀ k, k ≠ 6 → k ≠ 9 → (nh_si (nh_si τ 6 4 0) 9 4 0).1 k = τ.1 k := fun k h6 h9 => by rw [si_neK _ _ _ h9, si_neK _ _ _ h6]
  generalize nh_si (nh_si τ 6 4 0) 9 4 0 = κ at q2 q6 q9 qk ⊢
  refine c_fill (a0 := 30) (n0 := 12) rfl (by omega) _ (fun υ u1 u2 u3 u4 => ⟨rfl, ?_⟩)
  refine c_fill (a0 := 31) (n0 := 12) rfl (by omega) _ (fun ξ x1 x2 x3 x4 => ⟨rfl, ?_⟩)
  dsimp only
  have w2 : (nh_si ξ 0 16 0).2 = ξ.2 := rfl
  have w0 : (nh_si ξ 0 16 0).1 0 16 = 0 := by rw [bs_geti, if_pos ⟨rfl, rfl⟩]
  have wk : ∀ k, k ≠ 0 → (nh_si ξ 0 16 0).1 k = κ.1 k := fun k hk => by rw [si_neK _ _ _ hk, x1, u1]
  generalize nh_si ξ 0 16 0 = ω at w2 w0 wk ⊢
  refine hQ ω ?_ (fun k ak a13 => ?_) (fun k ak => ?_) ?_ ?_ ?_ (fun p hp => ?_) (fun p hp => ?_) ?_ ?_ (fun p hp => ?_) (fun p hp => ?_) w0
  · rw [w2, x2, u2, q2, t1.2, p2]
  · rw [wk k (by omega), qk k (by omega) (by omega), (t1.1 k (by simp; omega)).1, pk k a13]
  · rw [w2, x3 k (by omega), u3 k (by omega), q2, (t1.1 k (by simp; omega)).2, p2]
  · rw [wk _ (by omega), qk _ (by omega) (by omega), (t1.1 _ (by simp; omega)).1, p0]
  · rw [wk _ (by omega), qk _ (by omega) (by omega), t2 3 (by omega), pk _ (by omega)]
  · rw [wk _ (by omega), qk _ (by omega) (by omega)]
    exact t3
  · rw [w2, x3 4 (by omega), u3 4 (by omega), q2]
    exact t4 p hp
  · rw [w2, x3 5 (by omega), u3 5 (by omega), q2]
    exact t5 p hp
  · rw [wk _ (by omega)]
    exact q6
  · rw [wk _ (by omega)]
    exact q9
  · rw [w2, x3 30 (by omega)]
    exact u4 p hp
  · rw [w2]
    exact x4 p hp
