/-! THE CLASS: reading a parish -/
def frO (o w : Nat) (σ τ : nh_S) : Prop := (∀ k, k ≠ 1 → (k < o ∨ o + w < k) → τ.1 k = σ.1 k ∧ τ.2.1 k = σ.2.1 k) ∧ τ.2.2 = σ.2.2
theorem frO.rf (o w : Nat) (σ : nh_S) : frO o w σ σ := ⟨fun _ _ _ => ⟨rfl, rfl⟩, rfl⟩
theorem frO.tr {o w : Nat} {σ τ υ : nh_S} (h : frO o w σ τ) (g : frO o w τ υ) : frO o w σ υ := ⟨fun k h1 h2 => ⟨(g.1 k h1 h2).1.trans (h.1 k h1 h2).1, (g.1 k h1 h2).2.trans (h.1 k h1 h2).2⟩, g.2.trans h.2⟩
theorem frX.O {σ τ : nh_S} (h : frX σ τ) (o w : Nat) : frO o w σ τ := ⟨fun k hk _ => ⟨h.2 k hk, by rw [h.1]⟩, by rw [h.1]⟩
theorem frO.wa {o w : Nat} {σ τ : nh_S} (h : frO o w σ τ) {k : Nat} (i : Nat) (x : Int32) (hk : o ≤ k ∧ k ≤ o + w) : frO o w σ (nh_wa τ k i x) := ⟨fun j h1 h2 => ⟨(h.1 j h1 h2).1, by rw [wa_ne τ i x (by omega)]; exact (h.1 j h1 h2).2⟩, h.2⟩
theorem frO.si {o w : Nat} {σ τ : nh_S} (h : frO o w σ τ) {k : Nat} (j : Nat) (x : Int32) (hk : o ≤ k ∧ k ≤ o + w) : frO o w σ (nh_si τ k j x) := ⟨fun i h1 h2 => ⟨by rw [si_neK τ j x (by omega)]; exact (h.1 i h1 h2).1, (h.1 i h1 h2).2⟩, h.2⟩
def CQ (σ : nh_S) (o : Nat) (P : SP) : Prop := σ.1 o 0 = nI (sH P) ∧ σ.1 o 1 = nI (sP P) ∧ (∀ h, h < sH P → σ.2.1 (o + 1) h = nI (sWk P h) ∧ σ.2.1 (o + 2) h = nI (sKy P h) ∧ ∀ q, q < 4 → σ.2.1 (o + 4 + q) h = nI (sOd P q h)) ∧ (∀ p, p < sP P → σ.2.1 (o + 18) p = nI (sKp P p) ∧ σ.2.1 (o + 19) p = nI (sMi P p) ∧ σ.2.1 (o + 20) p = nI (sGa P p) ∧ σ.2.1 (o + 21) p = nI (sBe P p)) ∧ ∀ a b, a < 9 → b < 9 → σ.2.1 (o + 9 + a) b = nI (fl P 0 a b)
theorem isP.n {o : Nat} (h : isP o) : o ≠ 1 ∧ o ≠ 0 ∧ 33 ≤ o := by unfold isP at h; omega
theorem CQ.fx {σ τ : nh_S} {o : Nat} {P : SP} (h : CQ σ o P) (ho : isP o) (g : frX σ τ) : CQ τ o P := by
  have e : τ.2.1 = σ.2.1 := by rw [g.1]
  unfold CQ
  rw [g.2 o ho.n.1, e]
  exact h
theorem fl0_cong {P P2 : SP} (h : P2 27 = P 27) (a b : Nat) : fl P2 0 a b = fl P 0 a b := by
  rw [fl, fl]
  unfold sWy
  rw [h]
def tkLE (T : Nat → Nat) (n : Nat) (L : List Nat) (a : Nat) : Rs (List Nat) := rb (tkL T n L a) (fun vs e => rb (tkE T n e) (fun _ e2 => .ok (vs, e2)))
theorem tkLE_nil (T : Nat → Nat) (n a : Nat) : tkLE T n [] a = rb (tkE T n a) (fun _ e2 => .ok ([], e2)) := rfl
theorem tkLE_bad {T : Nat → Nat} {n hi a : Nat} {L : List Nat} {z : Nat × Nat} (h : tkN T n 0 hi a = .error z) : tkLE T n (hi :: L) a = .error z := by
  unfold tkLE
  rw [tkL, h]
  rfl
theorem tkLE_ok1 {T : Nat → Nat} {n hi a e : Nat} {L : List Nat} {v : Nat × Nat} (h : tkN T n 0 hi a = .ok (v, e)) {z : Nat × Nat} (g : tkLE T n L e = .error z) : tkLE T n (hi :: L) a = .error z := by
  unfold tkLE at g ⊢
  rw [tkL, h, rb_ok]
  cases hL : tkL T n L e with
  | error w => rw [hL] at g; exact g
  | ok y => rw [hL] at g; cases hE : tkE T n y.2 with
    | error w =>
      have g2 : rb (tkE T n y.2) (fun _ e2 => (.ok (y.1, e2) : Rs (List Nat))) = .error z := g
      rw [hE] at g2
      show rb (tkE T n y.2) (fun _ e2 => (.ok (v.1 :: y.1, e2) : Rs (List Nat))) = .error z
      rw [hE]
      exact g2
    | ok w =>
      have g2 : rb (tkE T n y.2) (fun _ e2 => (.ok (y.1, e2) : Rs (List Nat))) = .error z := g
      rw [hE] at g2
      cases g2
theorem tkLE_ok2 {T : Nat → Nat} {n hi a e : Nat} {L : List Nat} {v : Nat × Nat} (h : tkN T n 0 hi a = .ok (v, e)) {vs : List Nat} {e2 : Nat} (g : tkLE T n L e = .ok (vs, e2)) : tkLE T n (hi :: L) a = .ok (v.1 :: vs, e2) := by
  unfold tkLE at g ⊢
  obtain ⟨vs1, e3, g1, g2⟩ := rb_inv g
  obtain ⟨u, e4, g3, g4⟩ := rb_inv g2
  cases g4
  rw [tkL, h, rb_ok, g1, rb_ok, rb_ok, g3, rb_ok]
theorem tkHouse_le {T : Nat → Nat} {n : Nat} {P : SP} {s a : Nat} (h : ¬ 9 ≤ sH P) : (∀ z, tkLE T n [61, 61, 101, 101, 101, 101] a = .error z → tkHouse T n P s a = .error z) ∧ (∀ vs e, tkLE T n [61, 61, 101, 101, 101, 101] a = .ok (vs, e) → tkHouse T n P s a = .ok (nHouse P vs, e)) := by
  unfold tkHouse tkLE
  rw [if_neg h]
  cases tkL T n [61, 61, 101, 101, 101, 101] a with
  | error w => exact ⟨fun z q => by cases q; rfl, fun vs e q => by cases q⟩
  | ok y =>
    rw [rb_ok (y.1) (y.2), rb_ok (y.1) (y.2)]
    cases tkE T n y.2 with
    | error w => exact ⟨fun z q => by cases q; rfl, fun vs e q => by cases q⟩
    | ok w => exact ⟨fun z q => (by cases q), fun vs e q => by cases q; rfl⟩
theorem c_house_f {T : Nat → Nat} {n o h : Nat} {z : Nat × Nat} {Q : Option Value → nh_S → Prop} (ho : isP o) (hh : h < 9) : ∀ (d k : Nat) (σ : nh_S), k + d = 4 → bq σ T n z → σ.1 o 0 = nI h → (∀ τ, frO o 21 σ τ → bq τ T n z → τ.1 o 0 = nI (h + 1) → Q none τ) → nh_E kX3_learnHouse 53 [some (.ref o), some (.ref 1), some (.int (nI k))] [] σ Q
  | 0, k, σ, hk, hb, h0, hQ => by
    have hn := ho.n
    refine sg_X3_learnHouse_53 ho _ (pk_le 4 k (fun _ => ?_) (fun c => by omega))
    refine c_endClause_f hb (fun τ t1 t2 => ⟨rfl, ?_⟩)
    have e : τ.1 o 0 = nI h := by rw [t1.2 o hn.1]; exact h0
    dsimp only
    rw [e, nI_1]
    exact hQ _ ((t1.O o 21).si _ _ (by omega)) (t2.so _ _ hn.1) (by rw [bs_geti, if_pos ⟨rfl, rfl⟩])
  | d + 1, k, σ, hk, hb, h0, hQ => by
    have hn := ho.n
    refine sg_X3_learnHouse_53 ho _ (pk_le 4 k (fun c => by omega) (fun _ => ⟨pk_in k 4 (by omega), ?_⟩))
    refine c_takeNumber_f hb.1 _ _ ⟨_, rfl, pk_in h 9 hh h0, ?_⟩
    rw [nI_1]
    exact c_house_f ho hh d (k + 1) _ (by omega) (hb.wa _ _ (by omega)) h0 (fun τ t1 t2 t3 => hQ τ (((frO.rf o 21 σ).wa _ _ (by rw [pk_cl k rfl (by omega)]; omega)).tr t1) t2 t3)
theorem c_house_g {T : Nat → Nat} {n o h : Nat} {Q : Option Value → nh_S → Prop} (ho : isP o) (hh : h < 9) : ∀ (d k a : Nat) (σ : nh_S), k + d = 4 → gd σ T n a → σ.1 o 0 = nI h →
    (∀ z, tkLE T n (List.replicate d 101) a = .error z → ∀ τ, frO o 21 σ τ → bq τ T n z → τ.1 o 0 = nI (h + 1) → Q none τ) →
    (∀ vs e, tkLE T n (List.replicate d 101) a = .ok (vs, e) → ∀ τ, frO o 21 σ τ → gd τ T n e → τ.1 o 0 = nI (h + 1) → τ.1 o 1 = σ.1 o 1 → (∀ i, i < d → τ.2.1 (o + 4 + (k + i)) h = nI (vs.getD i 0)) → (∀ c j, (c < o + 4 + k ∨ o + 8 ≤ c ∨ j ≠ h) → τ.2.1 c j = σ.2.1 c j) → Q none τ) →
    nh_E kX3_learnHouse 53 [some (.ref o), some (.ref 1), some (.int (nI k))] [] σ Q
  | 0, k, a, σ, hk, hg, h0, hQb, hQo => by
    have hn := ho.n
    refine sg_X3_learnHouse_53 ho _ (pk_le 4 k (fun _ => ?_) (fun c => by omega))
    refine c_endClause hg (fun z hz τ t1 t2 => ⟨rfl, ?_⟩) (fun e he τ t1 t2 => ⟨rfl, ?_⟩)
    · have e : τ.1 o 0 = nI h := by rw [t1.2 o hn.1]; exact h0
      dsimp only
      rw [e, nI_1]
      exact hQb z (by show tkLE T n [] a = _; rw [tkLE_nil, hz]; rfl) _ ((t1.O o 21).si _ _ (by omega)) (t2.so _ _ hn.1) (by rw [bs_geti, if_pos ⟨rfl, rfl⟩])
    · have e1 : τ.1 o 0 = nI h := by rw [t1.2 o hn.1]; exact h0
      dsimp only
      rw [e1, nI_1]
      exact hQo [] e (by show tkLE T n [] a = _; rw [tkLE_nil, he]; rfl) _ ((t1.O o 21).si _ _ (by omega)) (t2.so _ _ hn.1) (by rw [bs_geti, if_pos ⟨rfl, rfl⟩]) (by rw [bs_geti, if_neg (by omega), t1.2 o hn.1]) (fun i hi => by omega) (fun c j _ => by show τ.2.1 c j = _; rw [t1.1])
  | d + 1, k, a, σ, hk, hg, h0, hQb, hQo => by
    have hn := ho.n
    refine sg_X3_learnHouse_53 ho _ (pk_le 4 k (fun c => by omega) (fun _ => ⟨pk_in k 4 (by omega), ?_⟩))
    refine c_takeNumber (lo := 0) (hi := 101) hg (by omega) (by omega) (by decide) (fun z hz τ t1 t2 => ⟨_, rfl, pk_in h 9 hh h0, ?_⟩) (fun v e hv τ t1 t2 t3 => ⟨_, rfl, pk_in h 9 hh h0, ?_⟩)
    · rw [nI_1]
      refine c_house_f ho hh d (k + 1) _ (by omega) (t2.wa _ _ (by omega)) ?_ (fun υ u1 u2 u3 => hQb z ?_ υ (((t1.O o 21).wa _ _ (by rw [pk_cl k rfl (by omega)]; omega)).tr u1) u2 u3)
      · show τ.1 o 0 = _
        rw [t1.2 o hn.1]; exact h0
      · exact tkLE_bad hz
    · rw [nI_1, pk_cl k rfl (by omega), pk_cl h h0 (by omega)]
      refine c_house_g ho hh d (k + 1) e _ (by omega) (t2.wa _ _ (by omega)) ?_ (fun z hz υ u1 u2 u3 => hQb z (tkLE_ok1 hv hz) υ (((t1.O o 21).wa _ _ (by omega)).tr u1) u2 u3) (fun vs e2 he υ u1 u2 u3 u4 u5 u6 => hQo (v.1 :: vs) e2 (tkLE_ok2 hv he) υ (((t1.O o 21).wa _ _ (by omega)).tr u1) u2 u3 ?_ (fun i hi => ?_) (fun c j hc => ?_))
      · show τ.1 o 0 = _
        rw [t1.2 o hn.1]; exact h0
      · rw [u4]
        show τ.1 o 1 = _
        rw [t1.2 o hn.1]
      · cases i with
        | zero =>
          rw [u6 _ _ (by omega), bs_get, if_pos ⟨by omega, rfl⟩]
          rfl
        | succ i =>
          have := u5 i (by omega)
          rw [show o + 4 + (k + (i + 1)) = o + 4 + (k + 1 + i) by omega, this]
          rfl
      · rw [u6 _ _ (by omega), bs_get, if_neg (by omega), t1.1]
theorem nHouse_ne (P : SP) (vs : List Nat) {t : Nat} (ht : t ∉ [0, 6, 7, 8]) : nHouse P vs t = P t := by
  simp at ht
  funext i j
  unfold nHouse
  rw [if_neg (by omega), if_neg (by omega), if_neg (by omega), if_neg (by omega)]
theorem nHouse_CQ {σ τ : nh_S} {o : Nat} {P : SP} {vs : List Nat} (hC : CQ σ o P) (u0 : τ.1 o 0 = nI (sH P + 1)) (u1 : τ.1 o 1 = σ.1 o 1) (v0 : τ.2.1 (o + 1) (sH P) = nI (vs.getD 0 0)) (v1 : τ.2.1 (o + 2) (sH P) = nI (vs.getD 1 0)) (v2 : ∀ i, i < 4 → τ.2.1 (o + 4 + i) (sH P) = nI (vs.getD (2 + i) 0)) (u4 : ∀ c j, ¬ (j = sH P ∧ (c = o + 1 ∨ c = o + 2 ∨ (o + 4 ≤ c ∧ c < o + 8))) → τ.2.1 c j = σ.2.1 c j) : CQ τ o (nHouse P vs) := by
  obtain ⟨r1, r2, r3, r4, r5⟩ := hC
  have eH : sH (nHouse P vs) = sH P + 1 := by simp [sH, nHouse]
  have eP : sP (nHouse P vs) = sP P := by simp [sP, nHouse]
  refine ⟨by rw [eH]; exact u0, by rw [eP, u1]; exact r2, fun h hh => ?_, fun p hp => ?_, fun a b ha hb => ?_⟩
  · rw [eH] at hh
    rcases (show h < sH P ∨ h = sH P by omega) with q | rfl
    · have hne : ¬ h = sH P := by omega
      have e1 : sWk (nHouse P vs) h = sWk P h := by simp [sWk, nHouse, show ¬ h = P 0 0 0 from hne]
      have e2 : sKy (nHouse P vs) h = sKy P h := by simp [sKy, nHouse, show ¬ h = P 0 0 0 from hne]
      obtain ⟨a1, a2, a3⟩ := r3 h q
      refine ⟨by rw [e1, u4 _ _ (by omega)]; exact a1, by rw [e2, u4 _ _ (by omega)]; exact a2, fun q4 hq4 => ?_⟩
      have e3 : sOd (nHouse P vs) q4 h = sOd P q4 h := by simp [sOd, nHouse, show ¬ h = P 0 0 0 from hne]
      rw [e3, u4 _ _ (by omega)]
      exact a3 q4 hq4
    · have e1 : sWk (nHouse P vs) (sH P) = vs.getD 0 0 := by simp [sWk, sH, nHouse]
      have e2 : sKy (nHouse P vs) (sH P) = vs.getD 1 0 := by simp [sKy, sH, nHouse]
      refine ⟨by rw [e1]; exact v0, by rw [e2]; exact v1, fun q hq => ?_⟩
      have e3 : sOd (nHouse P vs) q (sH P) = vs.getD (2 + q) 0 := by simp [sOd, sH, nHouse, hq]
      rw [e3]
      exact v2 q hq
  · rw [eP] at hp
    unfold sKp sMi sGa sBe
    rw [nHouse_ne P vs (t := 9) (by decide), nHouse_ne P vs (t := 2) (by decide), nHouse_ne P vs (t := 3) (by decide), nHouse_ne P vs (t := 4) (by decide), u4 _ _ (by omega), u4 _ _ (by omega), u4 _ _ (by omega), u4 _ _ (by omega)]
    exact r4 p hp
  · rw [fl0_cong (nHouse_ne P vs (t := 27) (by decide)), u4 _ _ (by omega)]
    exact r5 a b ha hb
set_option maxHeartbeats 1000000 in
theorem c_learnHouse {σ : nh_S} {T : Nat → Nat} {n a s o : Nat} {P : SP} (ho : isP o) (hg : gd σ T n a) (hs : σ.1 1 2 = nI s) (hC : CQ σ o P) (hW : WQ P) {Q : Option Value → nh_S → Prop}
    (hQb : ∀ z, tkHouse T n P s a = .error z → ∀ τ h, frO o 21 σ τ → bq τ T n z → τ.1 o 0 = nI h → h ≤ 9 → Q none τ)
    (hQo : ∀ P2 e, tkHouse T n P s a = .ok (P2, e) → ∀ τ, frO o 21 σ τ → gd τ T n e → CQ τ o P2 → Q none τ) : nh_E kX3_learnHouse 0 [some (.ref o), some (.ref 1), none] [] σ Q := by
  have hn := ho.n
  have h9 := hW.1
  refine sg_X3_learnHouse_0 ho (pk_lt (sH P) 9 (fun c => ?_) (fun c => ?_) hC.1 rfl)
  · obtain ⟨hE1, hE2⟩ := tkHouse_le (T := T) (n := n) (P := P) (s := s) (a := a) (by omega)
    refine c_takeNumber (lo := 0) (hi := 61) hg (by omega) (by omega) (by decide) (fun z hz τ t1 t2 => ⟨_, rfl, pk_in (sH P) 9 c hC.1, ?_⟩) (fun v e hv τ t1 t2 t3 => ⟨_, rfl, pk_in (sH P) 9 c hC.1, ?_⟩)
    · have e1 : τ.1 o 0 = nI (sH P) := by rw [t1.2 o hn.1]; exact hC.1
      refine c_takeNumber_f (t2.wa _ _ (by omega)).1 _ _ ⟨_, rfl, pk_in (sH P) 9 c e1, ?_⟩
      exact c_house_f ho c 4 0 _ rfl ((t2.wa _ _ (by omega)).wa _ _ (by omega)) e1 (fun υ u1 u2 u3 => hQb z (hE1 z (tkLE_bad hz)) υ _ ((((t1.O o 21).wa _ _ (by omega)).wa _ _ (by omega)).tr u1) u2 u3 (by omega))
    · have e1 : τ.1 o 0 = nI (sH P) := by rw [t1.2 o hn.1]; exact hC.1
      rw [pk_cl (sH P) hC.1 (by omega)]
      refine c_takeNumber (lo := 0) (hi := 61) (t2.wa _ _ (by omega)) (by omega) (by omega) (by decide) (fun z hz υ u1 u2 => ⟨_, rfl, pk_in (sH P) 9 c e1, ?_⟩) (fun v2 e2 hv2 υ u1 u2 u3 => ⟨_, rfl, pk_in (sH P) 9 c e1, ?_⟩)
      · have e2 : υ.1 o 0 = nI (sH P) := by rw [u1.2 o hn.1]; exact e1
        have f2 : frO o 21 σ υ := ((t1.O o 21).wa _ _ (by omega)).tr (u1.O o 21)
        exact c_house_f ho c 4 0 _ rfl (u2.wa _ _ (by omega)) e2 (fun ξ x1 x2 x3 => hQb z (hE1 z (tkLE_ok1 hv (tkLE_bad hz))) ξ _ ((f2.wa _ _ (by omega)).tr x1) x2 x3 (by omega))
      · have e2 : υ.1 o 0 = nI (sH P) := by rw [u1.2 o hn.1]; exact e1
        have f2 : frO o 21 σ υ := ((t1.O o 21).wa _ _ (by omega)).tr (u1.O o 21)
        rw [pk_cl (sH P) e1 (by omega)]
        refine c_house_g ho c 4 0 _ _ rfl (u2.wa _ _ (by omega)) e2 (fun z hz ξ x1 x2 x3 => hQb z (hE1 z (tkLE_ok1 hv (tkLE_ok1 hv2 hz))) ξ _ ((f2.wa _ _ (by omega)).tr x1) x2 x3 (by omega)) (fun vs e3 he ξ x1 x2 x3 x4 x5 x6 => hQo _ _ (hE2 _ _ (tkLE_ok2 hv (tkLE_ok2 hv2 he))) ξ ((f2.wa _ _ (by omega)).tr x1) x2 (nHouse_CQ hC x3 ?_ ?_ ?_ (fun i hi => ?_) (fun c' j hc => ?_)))
        · rw [x4]
          show υ.1 o 1 = _
          rw [u1.2 o hn.1]
          show τ.1 o 1 = _
          rw [t1.2 o hn.1]
        · rw [x6 _ _ (by omega), bs_get, if_neg (by omega), u1.1, bs_get, if_pos ⟨rfl, rfl⟩]
          rfl
        · rw [x6 _ _ (by omega), bs_get, if_pos ⟨rfl, rfl⟩]
          rfl
        · have := x5 i hi
          rw [Nat.zero_add] at this
          rw [this, show 2 + i = i + 1 + 1 by omega]
          rfl
        · rw [x6 _ _ (by omega), bs_get, if_neg (by omega), u1.1, bs_get, if_neg (by omega), t1.1]
  · rw [hs]
    exact c_blame (c := 3) hg (by omega) (by omega) (fun τ t1 t2 => ⟨rfl, hQb _ (by unfold tkHouse; rw [if_pos c]) τ (sH P) (t1.O o 21) t2 (by rw [t1.2 o hn.1]; exact hC.1) h9⟩)
theorem nWay_CQ {σ : nh_S} {o : Nat} {P : SP} (ho : isP o) (hC : CQ σ o P) {x y m : Nat} (hx : x < 9) (hy : y < 9) (hm : 1 ≤ m) (hxy : x ≠ y) : CQ (nh_wa (nh_wa σ (o + 9 + x) y (nI m)) (o + 9 + y) x (nI m)) o (nWay P x y m) := by
  obtain ⟨r1, r2, r3, r4, r5⟩ := hC
  have g := fun t ht => nWay_ne P x y m (t := t) ht
  have k : ∀ c, (c < o + 9 ∨ o + 18 ≤ c) → (nh_wa (nh_wa σ (o + 9 + x) y (nI m)) (o + 9 + y) x (nI m)).2.1 c = σ.2.1 c := fun c hc => by rw [wa_ne _ _ _ (by omega), wa_ne _ _ _ (by omega)]
  refine ⟨?_, ?_, fun h hh => ?_, fun p hp => ?_, fun a b ha hb => ?_⟩
  · unfold sH; rw [g 0 (by omega)]; exact r1
  · unfold sP; rw [g 1 (by omega)]; exact r2
  · unfold sH at hh
    rw [g 0 (by omega)] at hh
    unfold sWk sKy sOd
    rw [g 7 (by omega), g 8 (by omega), g 6 (by omega), k _ (by omega), k _ (by omega)]
    obtain ⟨a1, a2, a3⟩ := r3 h hh
    exact ⟨a1, a2, fun q hq => by rw [k _ (by omega)]; exact a3 q hq⟩
  · unfold sP at hp
    rw [g 1 (by omega)] at hp
    unfold sKp sMi sGa sBe
    rw [g 9 (by omega), g 2 (by omega), g 3 (by omega), g 4 (by omega), k _ (by omega), k _ (by omega), k _ (by omega), k _ (by omega)]
    exact r4 p hp
  · have r := r5 a b ha hb
    rw [fl] at r ⊢
    rw [nWay_at, bs_get, bs_get]
    by_cases c1 : a = y ∧ b = x
    · rw [if_pos ⟨by omega, c1.2⟩, if_neg (by omega), if_pos (Or.inl c1), if_neg (by omega)]
    · rw [if_neg (by omega)]
      by_cases c2 : a = x ∧ b = y
      · rw [if_pos ⟨by omega, c2.2⟩, if_neg (by omega), if_pos (Or.inr c2), if_neg (by omega)]
      · rw [if_neg (by omega), if_neg (show ¬ ((a = y ∧ b = x) ∨ (a = x ∧ b = y)) by omega)]
        exact r
set_option maxHeartbeats 1000000 in
theorem c_learnWay {σ : nh_S} {T : Nat → Nat} {n a o : Nat} {P : SP} (ho : isP o) (hg : gd σ T n a) (hC : CQ σ o P) (hW : WQ P) {Q : Option Value → nh_S → Prop}
    (hQb : ∀ z, tkWay T n P a = .error z → ∀ τ, frO o 21 σ τ → bq τ T n z → τ.1 o 0 = nI (sH P) → Q none τ)
    (hQo : ∀ P2 e, tkWay T n P a = .ok (P2, e) → ∀ τ, frO o 21 σ τ → gd τ T n e → CQ τ o P2 → Q none τ) : nh_E kX3_learnWay 0 [some (.ref o), some (.ref 1), none, none, none] [] σ Q := by
  have hn := ho.n
  have h9 := hW.1
  have tailf : ∀ (X : Int32 → nh_S → Prop) (τ : nh_S) (z : Nat × Nat), frX σ τ → bq τ T n z → tkWay T n P a = .error z → nh_E kX6_takeNumber 0 [some (.ref 1), some (.int 1), some (.int 99), none, none] [] τ (nh_qi fun r9 τ8 => nh_E kX6_endClause 0 [some (.ref 1)] [] τ8 (nh_qv fun τ11 => (¬ (τ11.1 1 3 = 0) → (Q none τ11)) ∧ (τ11.1 1 3 = 0 → X r9 τ11))) := by
    intro X τ z t1 t2 t3
    refine c_takeNumber_f t2.1 _ _ ⟨_, rfl, c_endClause_f t2 (fun υ u1 u2 => ⟨rfl, fun _ => hQb z t3 υ ((t1.tr u1).O o 21) u2 ?_, fun q => absurd q u2.1.ne⟩)⟩
    rw [(t1.tr u1).2 o hn.1]
    exact hC.1
  refine sg_X3_learnWay_0 ho ?_
  rw [hC.1]
  refine c_takeNumber (lo := 0) (hi := sH P) hg (by omega) (by omega) rfl (fun z hz τ t1 t2 => ⟨_, rfl, ?_⟩) (fun x e hx τ t1 t2 t3 => ⟨_, rfl, ?_⟩)
  · refine c_takeNumber_f t2.1 _ _ ⟨_, rfl, fun _ => ?_, fun q => absurd q t2.1.ne⟩
    exact tailf _ τ z t1 t2 (by unfold tkWay; rw [hz]; rfl)
  · dsimp only
    rw [t1.2 o hn.1, hC.1]
    refine c_takeNumber (lo := 0) (hi := sH P) t2 (by omega) (by omega) rfl (fun z hz υ u1 u2 => ⟨_, rfl, fun _ => ?_, fun q => absurd q u2.1.ne⟩) (fun y e2 hy υ u1 u2 u3 => ⟨_, rfl, fun q => absurd u2.1.1 q, fun _ => ?_⟩)
    · exact tailf _ υ z (t1.tr u1) u2 (by unfold tkWay; rw [hx, rb_ok, hz]; rfl)
    · have kx := tkN_ok hx
      have ky := tkN_ok hy
      have fu := t1.tr u1
      have hCu := hC.fx ho fu
      have hfa := hCu.2.2.2.2 x.1 y.1 (by omega) (by omega)
      rw [pk_cl x.1 rfl (by omega), pk_cl y.1 rfl (by omega), hfa]
      have hwy := (hW.2.2.2.2 x.1 y.1).1
      have hfl : fl P 0 x.1 y.1 ≤ 500 := fl_le hW 0 _ _
      refine ⟨pk_in x.1 9 (by omega), pk_in y.1 9 (by omega), pk_le 500 (fl P 0 x.1 y.1) (fun c => ?_) (fun c => ?_)⟩
      · have hne : ¬ (x.1 = y.1 ∨ sWy P x.1 y.1 ≠ 0) := by
          rw [fl] at c
          intro q
          split at c
          · omega
          · rename_i q1
            rcases q with q | q
            · exact q1 q
            · rw [if_neg q] at c
              omega
        refine c_takeNumber (lo := 1) (hi := 100) u2 (by omega) (by omega) (by decide) (fun z hz ξ x1 x2 => ⟨_, rfl, ?_⟩) (fun m e3 hm ξ x1 x2 x3 => ⟨_, rfl, ?_⟩)
        · refine c_endClause_f x2 (fun ρ r1 r2 => ⟨rfl, fun _ => hQb z ?_ ρ (((fu.tr x1).tr r1).O o 21) r2 ?_, fun q => absurd q r2.1.ne⟩)
          · unfold tkWay; rw [hx, rb_ok, hy, rb_ok, if_neg hne, hz]; rfl
          · rw [((fu.tr x1).tr r1).2 o hn.1]; exact hC.1
        · have km := tkN_ok hm
          refine c_endClause x2 (fun z hz ρ r1 r2 => ⟨rfl, fun _ => hQb z ?_ ρ (((fu.tr x1).tr r1).O o 21) r2 ?_, fun q => absurd q r2.1.ne⟩) (fun e4 he ρ r1 r2 => ⟨rfl, fun q => absurd r2.1.1 q, fun _ => ⟨pk_in x.1 9 (by omega), pk_in y.1 9 (by omega), hQo _ e4 ?_ _ (((((fu.tr x1).tr r1).O o 21).wa _ _ (by omega)).wa _ _ (by omega)) ((r2.wa _ _ (by omega)).wa _ _ (by omega)) (nWay_CQ ho (hC.fx ho ((fu.tr x1).tr r1)) (by omega) (by omega) km.1 (fun q => hne (Or.inl q)))⟩⟩)
          · unfold tkWay; rw [hx, rb_ok, hy, rb_ok, if_neg hne, hm, rb_ok, hz]; rfl
          · rw [((fu.tr x1).tr r1).2 o hn.1]; exact hC.1
          · unfold tkWay; rw [hx, rb_ok, hy, rb_ok, if_neg hne, hm, rb_ok, he]; rfl
      · have hne : x.1 = y.1 ∨ sWy P x.1 y.1 ≠ 0 := by
          rw [fl] at c
          split at c
          · rename_i q; exact Or.inl q
          · split at c
            · omega
            · rename_i q; exact Or.inr q
        rw [u3]
        refine c_blame (c := 4) u2 (by omega) (by omega) (fun ξ x1 x2 => ⟨rfl, ?_⟩)
        exact tailf _ ξ _ (fu.tr x1) x2 (by unfold tkWay; rw [hx, rb_ok, hy, rb_ok, if_pos hne])
set_option maxHeartbeats 1000000 in
theorem c_behind {T : Nat → Nat} {n o p : Nat} {Q : Option Value → nh_S → Prop} (ho : isP o) (hp : p ≤ 11) : ∀ (f i B a : Nat) (σ : nh_S), i + f = 12 → gd σ T n a → σ.1 o 1 = nI p → B < 2 ^ p →
    (∀ z r τ, tkQ T n p f B a = .error z → frX σ τ → bq τ T n z → Q (some (.int r)) τ) → (∀ B2 e τ, tkQ T n p f B a = .ok (B2, e) → frX σ τ → gd τ T n e → Q (some (.int (nI B2))) τ) →
    nh_E kX3_learnBehind 4 [some (.ref o), some (.ref 1), some (.int (nI B)), some (.int (nI i)), none] [] σ Q
  | 0, i, B, a, σ, hi, hg, h1, hB, hQb, hQo => by
    exact sg_X3_learnBehind_4 ho _ _ (pk_le 12 i (fun _ => hQo B a σ rfl (frX.rf σ) hg) (fun c => by omega))
  | f + 1, i, B, a, σ, hi, hg, h1, hB, hQb, hQo => by
    have hn := ho.n
    have hpw : 2 ^ p ≤ 2 ^ 11 := Nat.pow_le_pow_right (by omega) hp
    refine sg_X3_learnBehind_4 ho _ _ (pk_le 12 i (fun c => by omega) (fun _ => ⟨fun q => absurd hg.1.1 q, fun _ => ?_⟩))
    rw [h1]
    refine c_takeNumber (lo := 0) (hi := p) hg (by omega) (by omega) rfl (fun z hz τ t1 t2 => ⟨_, rfl, fun _ => ?_, fun q => absurd q t2.1.ne⟩) (fun q e hq τ t1 t2 t3 => ⟨_, rfl, fun c => absurd t2.1.1 c, fun _ => ?_⟩)
    · refine c_takesSign_f t2 _ (fun υ u1 u2 => ⟨_, rfl, fun c => absurd rfl c, fun _ => hQb z _ υ ?_ (t1.tr u1) u2⟩)
      rw [tkQ, hz]; rfl
    · have kq := tkN_ok hq
      rw [bs_hs (by omega) (by omega), nI_1, bs_shl (by omega), fa_or]
      refine ⟨fun c => ?_, fun c => ?_⟩
      · refine c_takesSign (c := 44) (by omega) t2 (fun c1 c2 υ u1 u2 => ⟨_, rfl, fun _ => ?_, fun c => absurd c (by decide)⟩) (fun c1 υ u1 u2 => ⟨_, rfl, fun c => absurd rfl c, fun _ => ?_⟩)
        · have hB2 : B ||| 2 ^ q.1 < 2 ^ p := Nat.or_lt_two_pow hB (Nat.pow_lt_pow_right (by omega) kq.2.1)
          have e1 : tkQ T n p (f + 1) B a = tkQ T n p f (B ||| 2 ^ q.1) (sk T n e + 1) := by rw [tkQ, hq, rb_ok, if_neg c, if_pos ⟨c1, c2⟩]
          rw [e1] at hQb hQo
          exact c_behind ho hp f (i + 1) _ _ υ (by omega) u2 (by rw [(t1.tr u1).2 o hn.1]; exact h1) hB2 (fun z r ξ x1 x2 x3 => hQb z r ξ x1 ((t1.tr u1).tr x2) x3) (fun B2 e2 ξ x1 x2 x3 => hQo B2 e2 ξ x1 ((t1.tr u1).tr x2) x3)
        · exact hQo _ _ υ (by rw [tkQ, hq, rb_ok, if_neg c, if_neg c1]) (t1.tr u1) u2
      · rw [t3]
        refine c_blame (c := 4) t2 (by omega) (by omega) (fun υ u1 u2 => ⟨rfl, ?_⟩)
        exact c_takesSign_f u2 _ (fun ξ x1 x2 => ⟨_, rfl, fun c => absurd rfl c, fun _ => hQb (4, q.2) _ ξ (by rw [tkQ, hq, rb_ok, if_pos c]) ((t1.tr u1).tr x1) x2⟩)
