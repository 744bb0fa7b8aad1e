/-! THE CLASS: kept -/
theorem MV_0 {S : SP} {σ : nh_S} (hC : CR σ S) (hW : WF S) {f t : Nat} (hf : f < sH S) (hK : WK σ S (fwS S f 0)) (hb : bdW S (fwS S f 0)) : MV (nh_cp (nh_si (nh_si (nh_sr σ 83 6 (σ.2.2 0 11)) 83 7 (nI t)) 83 8 0) 4 86 0 0 12) S f t := by
  have h12 := hW.1.2.1
  have d1 := hC.1.1
  unfold isP at d1
  have e2 : (nh_cp (nh_si (nh_si (nh_sr σ 83 6 (σ.2.2 0 11)) 83 7 (nI t)) 83 8 0) 4 86 0 0 12).2.2 0 11 = σ.2.2 0 11 := by
    show (nh_sr σ 83 6 (σ.2.2 0 11)).2.2 0 11 = _
    rw [bs_getr, if_neg (by omega)]
  have e3 : (nh_cp (nh_si (nh_si (nh_sr σ 83 6 (σ.2.2 0 11)) 83 7 (nI t)) 83 8 0) 4 86 0 0 12).2.2 83 6 = σ.2.2 0 11 := by
    show (nh_sr σ 83 6 (σ.2.2 0 11)).2.2 83 6 = _
    rw [bs_getr, if_pos ⟨rfl, rfl⟩]
  have ea : ∀ k, k ≠ 86 → (nh_cp (nh_si (nh_si (nh_sr σ 83 6 (σ.2.2 0 11)) 83 7 (nI t)) 83 8 0) 4 86 0 0 12).2.1 k = σ.2.1 k := by
    intro k hk
    funext j
    rw [bs_cp, if_neg (fun q => hk q.1)]
    rfl
  have ei : ∀ k, k ≠ 83 → (nh_cp (nh_si (nh_si (nh_sr σ 83 6 (σ.2.2 0 11)) 83 7 (nI t)) 83 8 0) 4 86 0 0 12).1 k = σ.1 k := by
    intro k hk
    show (nh_si (nh_si (nh_sr σ 83 6 (σ.2.2 0 11)) 83 7 (nI t)) 83 8 0).1 k = _
    rw [si_neK _ _ _ hk, si_neK _ _ _ hk]
    rfl
  refine ⟨by rw [e2]; exact hC.1.1, by rw [e2, e3], ?_, WK_pr hK (ea 13 (by decide)) (ea 14 (by decide)) (ea 15 (by decide)), hb, ?_, ⟨0, by omega, ?_⟩, fun p hp => ?_⟩
  · rw [e2]
    exact CRc_tr hC.2.1 hW.1 (ei _ (by omega)) (fun k h1 h2 => ea k (by omega)) (fun _ _ => rfl)
  · show (nh_si (nh_si (nh_sr σ 83 6 (σ.2.2 0 11)) 83 7 (nI t)) 83 8 0).1 83 7 = _
    rw [bs_geti, if_neg (by omega), bs_geti, if_pos ⟨rfl, rfl⟩]
  · show (nh_si (nh_si (nh_sr σ 83 6 (σ.2.2 0 11)) 83 7 (nI t)) 83 8 0).1 83 8 = _
    rw [bs_geti, if_pos ⟨rfl, rfl⟩]
    rfl
  · rw [bs_cp, if_pos ⟨rfl, by omega, by omega⟩]
    show σ.2.1 4 (0 + (p - 0)) = _
    rw [show 0 + (p - 0) = p by omega]
    exact (hC.2.2.1.1 p hp).1
theorem prC_find (σ : nh_S) (o : Nat) (x y : Int32) : prC σ (nh_cp (nh_si (nh_si (nh_sr σ 83 6 o) 83 7 x) 83 8 y) 4 86 0 0 12) := by
  refine ⟨fun k hk => ?_, ?_⟩
  · have n83 : k ≠ 83 := fun e => hk (by unfold sc; omega)
    have n86 : k ≠ 86 := fun e => hk (by unfold sc; omega)
    refine ⟨?_, ?_⟩
    · show (nh_si (nh_si (nh_sr σ 83 6 o) 83 7 x) 83 8 y).1 k = _
      rw [si_neK _ _ _ n83, si_neK _ _ _ n83]
      rfl
    · funext j
      rw [bs_cp, if_neg (fun q => n86 q.1)]
      rfl
  · funext j
    show (nh_sr σ 83 6 o).2.2 0 j = _
    rw [bs_getr, if_neg (by omega)]
theorem frC.pr2 {σ τ : nh_S} (h : frC [17, 18, 19, 20, 83, 84, 85, 86] σ τ) : prC σ τ := h.pr (by intro k hk; simp at hk; unfold sc; omega)
theorem prC.si {σ τ : nh_S} (h : prC σ τ) {k : Nat} (j : Nat) (x : Int32) (hk : sc k) : prC σ (nh_si τ k j x) := ⟨fun i hi => ⟨by rw [si_neK τ j x (fun e => hi (by rw [e]; exact hk))]; exact (h.1 i hi).1, (h.1 i hi).2⟩, h.2⟩
set_option maxHeartbeats 1000000 in
theorem c_find {S : SP} {σ : nh_S} (hC : CR σ S) (hW : WF S) {f t : Nat} (hf : f < sH S) (ht : t ≤ 999) (hK : WK σ S (fwS S f 0)) (hb : bdW S (fwS S f 0)) {Q : Option Value → nh_S → Prop} (hQ : ∀ υ, prC σ υ → υ.1 83 0 = ot (kN S f t) → (∀ n, kN S f t = some n → ∀ w, 1 ≤ w → w ≤ 2 * n → (if w % 2 = 1 then υ.2.1 84 ((w - 1) / 2) else υ.2.1 85 ((w - 1) / 2)) = nI (kV S f t w)) → Q none υ) : nh_E kX1_find 0 [some (.ref 83), some (.ref (σ.2.2 0 11)), some (.ref 4), some (.int (nI t))] [] σ Q := by
  have e0 : (0 : Int32).toNatClampNeg = 0 := rfl
  have e12 : (12 : Int32).toNatClampNeg = 12 := rfl
  have hsc : sc 83 := by unfold sc; omega
  refine sg_X1_find_0 hC.1.1 (a2 := 4) (n2 := 12) rfl _ ⟨by decide, ?_⟩
  rw [e0, e12]
  have p0 := prC_find σ (σ.2.2 0 11) (nI t) 0
  refine c_isInTime (MV_0 hC hW hf hK hb) hW ht (fun τ t1 t2 => ⟨_, rfl, fun c => ?_, fun c => ?_⟩)
  · have hh0 : ¬ hld S f t = true := fun q => by rw [b01.mp c] at q; cases q
    have p1 : prC σ τ := p0.tr (frC.pr2 (t1.mono (by simp)))
    refine c_moveOne t2 hW ht (i := 0) (lo := 0) (by omega) (by omega) (fun υ u1 u2 u3 => ⟨_, rfl, fun c2 => ?_, fun c2 => ?_⟩)
    · have z := b01.mp c2
      have hm0 : m1 S f t 0 (sP S) = none := by
        cases y : m1 S f t 0 (sP S) with
        | none => rfl
        | some v => rw [y] at z; cases z
      refine c_moveTwo (u2 hm0) hW ht (fun ρ r1 r2 => ⟨_, rfl, ?_⟩)
      have p3 : prC σ ρ := (p1.tr u1.pr2).tr r1.pr2
      dsimp only
      by_cases hs : (m2 S f t (sP S)).isSome = true
      · obtain ⟨x, hx⟩ := Option.isSome_iff_exists.mp hs
        have ek : kN S f t = some 2 := by unfold kN; rw [if_neg hh0, hm0, hx]; rfl
        rw [if_pos hs, if_neg (by decide)]
        refine hQ _ (p3.si _ _ hsc) (by rw [bs_geti, if_pos ⟨rfl, rfl⟩, ek]; rfl) (fun n hn w hw1 hw2 => ?_)
        rw [ek] at hn
        cases hn
        obtain ⟨x1, x2, x3⟩ := r2 x hx
        have hg : (m1 (sUp S 9 x.1 0 x.2) f t (x.1 + 1) (sP S)).isSome = true := by
          have hm2 : ∀ n, ∀ y, m2 S f t n = some y → (m1 (sUp S 9 y.1 0 y.2) f t (y.1 + 1) (sP S)).isSome = true := by
            intro n
            induction n with
            | zero => intro y hy; cases hy
            | succ n ihn =>
              intro y hy
              rw [m2] at hy
              cases hq : m2 S f t n with
              | some y2 => rw [hq] at hy; cases hy; exact ihn _ hq
              | none =>
                rw [hq] at hy
                dsimp only at hy
                cases hg : g2 S f t n (sH S) with
                | none => rw [hg] at hy; cases hy
                | some h =>
                  rw [hg] at hy
                  cases hy
                  have hgg : ∀ k, ∀ h, g2 S f t n k = some h → (m1 (sUp S 9 n 0 h) f t (n + 1) (sP S)).isSome = true := by
                    intro k
                    induction k with
                    | zero => intro h hh; cases hh
                    | succ k ihk =>
                      intro h hh
                      rw [g2] at hh
                      cases hq2 : g2 S f t n k with
                      | some h2 => rw [hq2] at hh; cases hh; exact ihk _ hq2
                      | none =>
                        rw [hq2] at hh
                        dsimp only at hh
                        split at hh
                        · rename_i w; cases hh; exact w.2
                        · cases hh
                  exact hgg _ _ hg
          exact hm2 _ x hx
        obtain ⟨y, hy⟩ := Option.isSome_iff_exists.mp hg
        obtain ⟨y1, y2⟩ := x3 y hy
        have kv1 : kV S f t 1 = x.1 := by unfold kV; rw [ek, hx]; rfl
        have kv2 : kV S f t 2 = x.2 := by unfold kV; rw [ek, hx]; rfl
        have kv3 : kV S f t 3 = y.1 := by
          unfold kV; rw [ek, hx]
          show ((m1 (sUp S 9 x.1 0 x.2) f t (x.1 + 1) (sP S)).getD (0, 0)).1 = y.1
          rw [hy]; rfl
        have kv4 : kV S f t 4 = y.2 := by
          unfold kV; rw [ek, hx]
          show ((m1 (sUp S 9 x.1 0 x.2) f t (x.1 + 1) (sP S)).getD (0, 0)).2 = y.2
          rw [hy]; rfl
        rcases (show w = 1 ∨ w = 2 ∨ w = 3 ∨ w = 4 by omega) with rfl | rfl | rfl | rfl
        · rw [kv1]; exact x1
        · rw [kv2]; exact x2
        · rw [kv3]; exact y1
        · rw [kv4]; exact y2
      · have hx : m2 S f t (sP S) = none := by
          cases y : m2 S f t (sP S) with
          | none => rfl
          | some v => rw [y] at hs; exact absurd rfl hs
        have ek : kN S f t = none := by unfold kN; rw [if_neg hh0, hm0, hx]; rfl
        rw [if_neg hs, if_pos rfl]
        exact hQ _ (p3.si _ _ hsc) (by rw [bs_geti, if_pos ⟨rfl, rfl⟩, ek]; rfl) (fun n hn => by rw [ek] at hn; cases hn)
    · have hs : (m1 S f t 0 (sP S)).isSome = true := by
        cases z : (m1 S f t 0 (sP S)).isSome with
        | true => rfl
        | false => exact absurd (b01.mpr z) c2
      obtain ⟨x, hx⟩ := Option.isSome_iff_exists.mp hs
      have ek : kN S f t = some 1 := by unfold kN; rw [if_neg hh0, if_pos hs]
      refine hQ _ ((p1.tr u1.pr2).si _ _ hsc) (by rw [bs_geti, if_pos ⟨rfl, rfl⟩, ek]; rfl) (fun n hn w hw1 hw2 => ?_)
      rw [ek] at hn
      cases hn
      obtain ⟨x1, x2⟩ := u3 x hx
      have kv1 : kV S f t 1 = x.1 := by unfold kV; rw [ek, hx]; rfl
      have kv2 : kV S f t 2 = x.2 := by unfold kV; rw [ek, hx]; rfl
      rcases (show w = 1 ∨ w = 2 by omega) with rfl | rfl
      · rw [kv1]; exact x1
      · rw [kv2]; exact x2
  · have hh0 : hld S f t = true := by
      cases z : hld S f t with
      | true => rfl
      | false => exact absurd (b01.mpr z) c
    have ek : kN S f t = some 0 := by unfold kN; rw [if_pos hh0]
    exact hQ _ ((p0.tr (frC.pr2 (t1.mono (by simp)))).si _ _ hsc) (by rw [bs_geti, if_pos ⟨rfl, rfl⟩, ek]; rfl) (fun n hn w h1 h2 => by rw [ek] at hn; cases hn; omega)
theorem c_kept {S : SP} {σ : nh_S} (hC : CR σ S) (hW : WF S) (x y z : Int32) {Q : Option Value → nh_S → Prop} (hQ : ∀ τ, CR τ S → Q (some (.int (aKept S x y z))) τ) : nh_E kX8_kept 0 [some (.ref 0), some (.int x), some (.int y), some (.int z), none] [] σ Q := by
  have h9 := hW.1.1
  unfold aKept at hQ
  refine sg_X8_kept_0 x y z ⟨hC.1.1, ?_⟩
  rw [hC.2.1.1, ix_cls (by omega)]
  rcases ix_cases x (n := sH S) (by omega) with ⟨f, hf, rfl, e⟩ | ⟨e, hx⟩
  · refine ⟨fun _ => ?_, fun c => absurd ⟨f, hf, rfl⟩ c⟩
    rcases ix_cases y (n := 1000) (by omega) with ⟨t, ht, rfl, e2⟩ | ⟨e2, hy⟩
    · refine ⟨fun z => absurd z (nI_pos (by omega)), fun _ => ⟨fun z => absurd z (by rw [show (999 : Int32) = nI 999 from rfl, nI_ltI (by omega) (by omega)]; omega), fun _ => ?_⟩⟩
      rcases ix_cases z (n := 5) (by omega) with ⟨w, hw, rfl, e3⟩ | ⟨e3, hz⟩
      · rw [e, e2, e3] at hQ
        dsimp only at hQ
        refine ⟨fun z => absurd z (nI_pos (by omega)), fun _ => ⟨fun _ => ⟨hC.1.2.2.2.1.L, ?_⟩, fun z => absurd (by rw [show (4 : Int32) = nI 4 from rfl]; exact nI_le (by omega) (by omega)) z⟩⟩
        refine c_wakeBy hC hW hf (awm := 0) (by omega) (fun τ t1 t2 t3 t4 => ⟨rfl, t2.1.1, ?_⟩)
        refine c_find t2 hW hf (by omega) t3 t4 (fun υ u1 u2 u3 => ⟨rfl, ?_⟩)
        have h := hQ υ (t2.pr hW u1)
        by_cases e5 : w = 0
        · rw [if_pos e5] at h
          subst e5
          refine ⟨fun c => absurd rfl c, fun _ => ?_⟩
          rw [u2]
          exact h
        · rw [if_neg e5] at h
          refine ⟨fun _ => ?_, fun c => absurd c (nI_ne0 (by omega) (by omega))⟩
          have ep : nI w - 1 = nI (w - 1) := by
            have := nI_pred (w - 1)
            rw [show w - 1 + 1 = w by omega] at this
            exact this
          have ed : (nI w - 1) / 2 = nI ((w - 1) / 2) := by
            rw [ep, show (2 : Int32) = nI 2 from rfl, pk_div (by omega) (by omega) (by omega)]
          have er : nI w - nI w / 2 * 2 = nI (w % 2) := by
            rw [show (2 : Int32) = nI 2 from rfl, pk_rem (by omega) (by omega) (by omega)]
          rw [ed, er, u2, pk_cl ((w - 1) / 2) rfl (by omega)]
          have h1 : (nI (w % 2) = 1) ↔ w % 2 = 1 := by
            rw [show (1 : Int32) = nI 1 from rfl, nI_eq (by omega) (by omega)]
          have eif : ∀ A B : Int32, (if nI (w % 2) = 1 then A else B) = if w % 2 = 1 then A else B := fun A B => by
            by_cases q : w % 2 = 1
            · rw [if_pos q, if_pos (h1.mpr q)]
            · rw [if_neg q, if_neg (fun z => q (h1.mp z))]
          rw [eif]
          cases hk : kN S f t with
          | none =>
            rw [hk] at h
            dsimp only [Option.getD] at h
            rw [if_neg (by omega)] at h
            refine ⟨fun c => ?_, fun _ => h⟩
            exfalso
            rw [Int32.lt_iff_toInt_lt, nI_toInt (by omega), show (ot none).toInt = -1 from rfl] at c
            omega
          | some n =>
            have hn := kN_le S f t n hk
            rw [hk] at h
            dsimp only [Option.getD] at h
            rw [ot_some]
            refine pk_lt ((w - 1) / 2) n (fun c => ⟨⟨fun _ => pk_in ((w - 1) / 2) 2 (by omega), fun _ => pk_in ((w - 1) / 2) 2 (by omega)⟩, ?_⟩) (fun c => ?_)
            · rw [if_pos (by omega)] at h
              rw [u3 n hk w (by omega) (by omega)]
              exact h
            · rw [if_neg (by omega)] at h
              exact h
      · rw [e, e2, e3] at hQ
        refine ⟨fun _ => hQ _ hC, fun c1 => ⟨fun c2 => ?_, fun _ => hQ _ hC⟩⟩
        exfalso
        obtain ⟨h, hh, q⟩ := (ix_lit (x := z) (n := 4) (by omega)).mp ⟨c1, fun c3 => (fa_of_lt c3).2.1 c2⟩
        exact hz h (by omega) q
    · rw [e, e2] at hQ
      refine ⟨fun _ => hQ _ hC, fun c1 => ⟨fun _ => hQ _ hC, fun c2 => ?_⟩⟩
      exfalso
      obtain ⟨h, hh, q⟩ := (ix_lit (x := y) (n := 999) (by omega)).mp ⟨c1, c2⟩
      exact hy h (by omega) q
  · rw [e] at hQ
    exact ⟨fun c => absurd (fun ⟨h, hh, q⟩ => hx h hh q) c, fun _ => hQ _ hC⟩
