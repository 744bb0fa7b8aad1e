/-! THE REFERENCE, simple methods that change the state -/
theorem ix_ful {x : Int32} {k : Nat} (hk : k < 30) : (¬ (x < 0) ∧ ¬ ((1 : Int32) <<< (nI k &&& 31) - 1 < x)) ↔ ∃ m, m < 2 ^ k ∧ x = nI m := by
  have h1 : 2 ^ k ≤ 2 ^ 29 := Nat.pow_le_pow_right (by omega) (by omega)
  have h2 := Nat.two_pow_pos k
  rw [bs_full (by omega), ix_lit (by omega)]
  exact ⟨fun ⟨m, a, b⟩ => ⟨m, by omega, b⟩, fun ⟨m, a, b⟩ => ⟨m, by omega, b⟩⟩
theorem pw_le {k n : Nat} (h : k ≤ n) : 2 ^ k ≤ 2 ^ n := Nat.pow_le_pow_right (by omega) h
def aPart (S : SP) (x y : Int32) : Int32 := match ix x (sP S) with
  | none => -1000001
  | some p => if y = 0 then nI (sKp S p) else if y = 1 then nI (sMi S p) else if y = 2 then nI (sGa S p) else if y = 3 then nI (sBe S p) else if y = 4 then nI (sCs S p) else if y = 5 then nI (sFt S p) else -1000002
theorem r_part {S : SP} {σ : nh_S} (hR : RR σ S) (hW : WF S) (x y : Int32) {Q : Option Value → nh_S → Prop} (hQ : Q (some (.int (aPart S x y))) σ) : nh_E kX9_part 0 [some (.ref 0), some (.int x), some (.int y)] [] σ Q := by
  have h12 := hW.1.2.1
  unfold aPart at hQ
  refine sg_X9_part_0 x y ?_
  rw [hR.1.2.1, ix_ref (by omega)]
  rcases ix_cases x (n := sP S) (by omega) with ⟨p, hp, rfl, e⟩ | ⟨e, hx⟩
  · rw [e] at hQ
    obtain ⟨g1, g2, g3⟩ := hR.1.2.2.1 p hp
    obtain ⟨g4, g5⟩ := hR.2.1.1 p hp
    have g6 := hR.2.2.2.1.1 p hp
    have ec : (nI p).toNatClampNeg = p := pk_cl p rfl (by omega)
    have e12 : (12 : Int32) + nI p = nI (12 + p) := nI_add 12 p
    refine ⟨fun _ => ⟨?_, ?_, ?_, ?_, ?_, ?_, ?_⟩, fun c => absurd ⟨p, hp, rfl⟩ c⟩
    · rintro rfl; rw [ec, g4]; exact ⟨pk_in p 78 (by omega), hQ⟩
    · rintro rfl; rw [ec, g1]; exact ⟨pk_in p 24 (by omega), hQ⟩
    · rintro rfl; rw [ec, g2]; exact ⟨pk_in p 24 (by omega), hQ⟩
    · rintro rfl; rw [ec, g3]; exact ⟨pk_in p 24 (by omega), hQ⟩
    · rintro rfl; rw [ec, g6]; exact ⟨pk_in p 12 (by omega), hQ⟩
    · rintro rfl; rw [e12, pk_cl (12 + p) rfl (by omega), g5]; exact ⟨pk_in (12 + p) 78 (by omega), hQ⟩
    · rintro ⟨h0, h1, h2, h3, h4, h5⟩
      dsimp only at hQ
      rw [if_neg h0, if_neg h1, if_neg h2, if_neg h3, if_neg h4, if_neg h5] at hQ
      exact hQ
  · rw [e] at hQ
    exact ⟨fun ⟨h, hh, q⟩ => absurd q (hx h hh), fun _ => hQ⟩
/-- one place of the movable row is written -/
theorem RR_w {σ : nh_S} {S T : SP} {i : Nat} {x : Int32} (hR : RR σ S) (hi : i < 26) (hm : RRm (nh_wa σ 1 i x) T) (ht : ∀ t, t ∉ [9, 10, 11, 12] → T t = S t) : RR (nh_wa σ 1 i x) T := by
  obtain ⟨h1, h2, h3, h4, h5, h6⟩ := hR
  have w : ∀ k, k ≠ 1 → (nh_wa σ 1 i x).2.1 k = σ.2.1 k := fun k hk => wa_ne σ i x hk
  refine ⟨RRc_tr h1 (w 3 (by decide)) (w 6 (by decide)) (w 7 (by decide)) (w 8 (by decide)) (w 9 (by decide)) (w 14 (by decide)) (fun t h => ht t (by simp; omega)), hm, RRp_tr h3 rfl (w 10 (by decide)) (w 11 (by decide)) (ht 16 (by decide)) (ht 17 (by decide)) (ht 18 (by decide)), RRx_tr h4 rfl rfl (w 12 (by decide)) (w 26 (by decide)) (ht 1 (by decide)) (ht 13 (by decide)) (ht 14 (by decide)) (ht 15 (by decide)), RRi_tr h5 (fun j _ => by rw [w 2 (by decide)]) (fun j hj => by rw [bs_get, if_neg (by omega)]) (ht 1 (by decide)) (ht 22 (by decide)) (ht 23 (by decide)) (ht 24 (by decide)) (ht 25 (by decide)) (ht 26 (by decide)), RRt_tr h6 rfl rfl (w 13 (by decide)) (ht 19 (by decide)) (ht 20 (by decide)) (ht 21 (by decide))⟩
def aAway (S : SP) (x : Int32) : Int32 := match ix x (2 ^ sH S) with
  | none => -1000001
  | some _ => nI (sAw S)
def nAway (S : SP) (x : Int32) : SP := match ix x (2 ^ sH S) with
  | none => S
  | some m => sUp S 11 0 0 m
theorem r_away {S : SP} {σ : nh_S} (hR : RR σ S) (hW : WF S) (x : Int32) {Q : Option Value → nh_S → Prop} (hQ : ∀ τ, RR τ (nAway S x) → Q (some (.int (aAway S x))) τ) : nh_E kX9_away 0 [some (.ref 0), some (.int x), none] [] σ Q := by
  have h9 := hW.1.1
  have hpw : 2 ^ sH S ≤ 2 ^ 9 := pw_le h9
  unfold aAway nAway at hQ
  refine sg_X9_away_0 x ?_
  rw [hR.1.1, ix_ful (by omega)]
  rcases ix_cases x (n := 2 ^ sH S) (by omega) with ⟨m, hm, rfl, e⟩ | ⟨e, hx⟩
  · rw [e] at hQ
    refine ⟨fun _ => ?_, fun c => absurd ⟨m, hm, rfl⟩ c⟩
    rw [hR.2.1.2.1]
    refine hQ _ (RR_w hR (by decide) ?_ (fun t ht => sUp_ne S (fun q => ht (by rw [q]; decide)) 0 0 m))
    obtain ⟨g1, g2, g3⟩ := hR.2.1
    refine ⟨fun p hp => ?_, ?_, ?_⟩
    · have hp2 : p < sP S := hp
      have := hW.1.2.1
      rw [bs_get, bs_get, if_neg (by omega), if_neg (by omega)]
      exact g1 p hp2
    · rw [bs_get]; rfl
    · rw [bs_get]; exact g3
  · rw [e] at hQ
    exact ⟨fun ⟨h, hh, q⟩ => absurd q (hx h hh), fun _ => hQ _ hR⟩
def aKeepAt (S : SP) (x y : Int32) : Int32 := match ix x (sP S), ix y (sH S) with
  | some p, some _ => nI (sKp S p)
  | _, _ => -1000001
def nKeepAt (S : SP) (x y : Int32) : SP := match ix x (sP S), ix y (sH S) with
  | some p, some h => sUp S 9 p 0 h
  | _, _ => S
/-- a PART is kept elsewhere -/
theorem RR_kp {σ : nh_S} {S : SP} (hR : RR σ S) (h12 : sP S ≤ 12) {p : Nat} (hp : p < sP S) (h : Nat) : RR (nh_wa σ 1 p (nI h)) (sUp S 9 p 0 h) := by
  refine RR_w hR (by omega) ?_ (fun t ht => sUp_ne S (fun q => ht (by rw [q]; decide)) p 0 h)
  obtain ⟨g1, g2, g3⟩ := hR.2.1
  refine ⟨fun q hq => ?_, ?_, ?_⟩
  · have hq2 : q < sP S := hq
    rw [bs_get, bs_get, if_neg (show ¬ (1 = 1 ∧ 12 + q = p) by omega)]
    refine ⟨?_, (g1 q hq2).2⟩
    show _ = nI (sUp S 9 p 0 h 9 q 0)
    rw [sUp_at]
    by_cases e : q = p
    · rw [if_pos ⟨rfl, e⟩, if_pos ⟨e, rfl⟩]
    · rw [if_neg (fun z => e z.2), if_neg (fun z => e z.1)]
      exact (g1 q hq2).1
  · rw [bs_get, if_neg (by omega)]; exact g2
  · rw [bs_get, if_neg (by omega)]; exact g3
theorem r_keepAt {S : SP} {σ : nh_S} (hR : RR σ S) (hW : WF S) (x y : Int32) {Q : Option Value → nh_S → Prop} (hQ : ∀ τ, RR τ (nKeepAt S x y) → Q (some (.int (aKeepAt S x y))) τ) : nh_E kX9_keepAt 0 [some (.ref 0), some (.int x), some (.int y), none] [] σ Q := by
  have h9 := hW.1.1
  have h12 := hW.1.2.1
  unfold aKeepAt nKeepAt at hQ
  refine sg_X9_keepAt_0 x y ?_
  rw [hR.1.1, hR.1.2.1, ix_ref (by omega), ix_ref (by omega)]
  rcases ix_cases x (n := sP S) (by omega) with ⟨p, hp, rfl, e⟩ | ⟨e, hx⟩
  · refine ⟨fun c => absurd ⟨p, hp, rfl⟩ c, fun _ => ?_⟩
    rcases ix_cases y (n := sH S) (by omega) with ⟨h, hh, rfl, e2⟩ | ⟨e2, hy⟩
    · rw [e, e2] at hQ
      refine ⟨fun _ => ⟨pk_in p 78 (by omega), ?_⟩, fun c => absurd ⟨h, hh, rfl⟩ c⟩
      rw [pk_cl p rfl (by omega), (hR.2.1.1 p hp).1]
      exact hQ _ (RR_kp hR h12 hp h)
    · rw [e, e2] at hQ
      exact ⟨fun ⟨h, hh, q⟩ => absurd q (hy h hh), fun _ => hQ _ hR⟩
  · rw [e] at hQ
    exact ⟨fun _ => hQ _ hR, fun ⟨h, hh, q⟩ => absurd q (hx h hh)⟩
def aFit (S : SP) (x y : Int32) : Int32 := match ix x (sP S), ix y (2 ^ sP S) with
  | some p, some _ => nI (sFt S p)
  | _, _ => -1000001
def nFit (S : SP) (x y : Int32) : SP := match ix x (sP S), ix y (2 ^ sP S) with
  | some p, some m => sUp S 10 p 0 (m ||| 2 ^ p)
  | _, _ => S
theorem r_fit {S : SP} {σ : nh_S} (hR : RR σ S) (hW : WF S) (x y : Int32) {Q : Option Value → nh_S → Prop} (hQ : ∀ τ, RR τ (nFit S x y) → Q (some (.int (aFit S x y))) τ) : nh_E kX9_fit 0 [some (.ref 0), some (.int x), some (.int y), none] [] σ Q := by
  have h12 := hW.1.2.1
  have hpw : 2 ^ sP S ≤ 2 ^ 12 := pw_le h12
  unfold aFit nFit at hQ
  refine sg_X9_fit_0 x y ?_
  rw [hR.1.2.1, ix_ref (by omega), ix_ful (by omega)]
  rcases ix_cases x (n := sP S) (by omega) with ⟨p, hp, rfl, e⟩ | ⟨e, hx⟩
  · refine ⟨fun c => absurd ⟨p, hp, rfl⟩ c, fun _ => ?_⟩
    rcases ix_cases y (n := 2 ^ sP S) (by omega) with ⟨m, hm, rfl, e2⟩ | ⟨e2, hy⟩
    · rw [e, e2] at hQ
      have e12 : (12 : Int32) + nI p = nI (12 + p) := nI_add 12 p
      rw [e12]
      refine ⟨fun _ => ⟨pk_in (12 + p) 78 (by omega), ?_⟩, fun c => absurd ⟨m, hm, rfl⟩ c⟩
      rw [pk_cl (12 + p) rfl (by omega), (hR.2.1.1 p hp).2, bs_shl (by omega), fa_or]
      refine hQ _ (RR_w hR (by omega) ?_ (fun t ht => sUp_ne S (fun q => ht (by rw [q]; decide)) p 0 _))
      obtain ⟨g1, g2, g3⟩ := hR.2.1
      refine ⟨fun q hq => ?_, ?_, ?_⟩
      · have hq2 : q < sP S := hq
        rw [bs_get, bs_get, if_neg (show ¬ (1 = 1 ∧ q = 12 + p) by omega)]
        refine ⟨(g1 q hq2).1, ?_⟩
        show _ = nI (sUp S 10 p 0 (m ||| 2 ^ p) 10 q 0)
        rw [sUp_at]
        by_cases e : q = p
        · rw [if_pos ⟨rfl, by omega⟩, if_pos ⟨e, rfl⟩]
        · rw [if_neg (by omega), if_neg (fun z => e z.1)]
          exact (g1 q hq2).2
      · rw [bs_get, if_neg (by omega)]; exact g2
      · rw [bs_get, if_neg (by omega)]; exact g3
    · rw [e, e2] at hQ
      exact ⟨fun ⟨h, hh, q⟩ => absurd q (hy h hh), fun _ => hQ _ hR⟩
  · rw [e] at hQ
    exact ⟨fun _ => hQ _ hR, fun ⟨h, hh, q⟩ => absurd q (hx h hh)⟩
def aSeed (S : SP) (x : Int32) : Int32 := if 0 ≤ x then nI (sSd S) else -1000002
def nSeed (S : SP) (x : Int32) : SP := if 0 ≤ x then sUp S 12 0 0 x.toInt.toNat else S
theorem nn_of {x : Int32} (h : 0 ≤ x) : x = nI x.toInt.toNat ∧ x.toInt.toNat < 2 ^ 31 := by
  have h1 := fb_rng x
  rw [Int32.le_iff_toInt_le, show (0 : Int32).toInt = 0 from rfl] at h
  refine ⟨?_, by omega⟩
  rw [← Int32.toInt_inj, nI_toInt (by omega)]
  omega
theorem r_seed {S : SP} {σ : nh_S} (hR : RR σ S) (hW : WF S) (x : Int32) {Q : Option Value → nh_S → Prop} (hQ : ∀ τ, RR τ (nSeed S x) → Q (some (.int (aSeed S x))) τ) : nh_E kX9_seed 0 [some (.ref 0), some (.int x), none] [] σ Q := by
  have h12 := hW.1.2.1
  unfold aSeed nSeed at hQ
  refine sg_X9_seed_0 x ⟨fun c => ?_, fun c => ?_⟩
  · rw [if_pos c, if_pos c] at hQ
    rw [hR.2.1.2.2]
    refine hQ _ (RR_w hR (by decide) ?_ (fun t ht => sUp_ne S (fun q => ht (by rw [q]; decide)) 0 0 _))
    obtain ⟨g1, g2, g3⟩ := hR.2.1
    refine ⟨fun p hp => ?_, ?_, ?_⟩
    · have hp2 : p < sP S := hp
      rw [bs_get, bs_get, if_neg (by omega), if_neg (by omega)]
      exact g1 p hp2
    · rw [bs_get]; exact g2
    · rw [bs_get]
      exact (nn_of c).1
  · rw [if_neg c, if_neg c] at hQ
    exact hQ _ hR
def aCost (S : SP) (x y : Int32) : Int32 := match ix x (sP S) with
  | none => -1000001
  | some p => match ix y 100 with
    | none => -1000002
    | some _ => nI (sCs S p)
def nCost (S : SP) (x y : Int32) : SP := match ix x (sP S), ix y 100 with
  | some p, some c => sUp S 13 p 0 c
  | _, _ => S
/-- costs, store, logs have changed -/
theorem RR_x {σ τ : nh_S} {S T : SP} (hR : RR σ S) (h12 : sP S ≤ 12) (hx : RRx τ T) (ha : ∀ k, k ≠ 12 → k ≠ 26 → τ.2.1 k = σ.2.1 k) (hi : ∀ j, j ≠ 14 → j ≠ 37 → τ.1 0 j = σ.1 0 j) (ht : ∀ t, t ∉ [13, 14, 15] → T t = S t) : RR τ T := by
  obtain ⟨h1, h2, h3, h4, h5, h6⟩ := hR
  refine ⟨RRc_tr h1 (ha 3 (by decide) (by decide)) (ha 6 (by decide) (by decide)) (ha 7 (by decide) (by decide)) (ha 8 (by decide) (by decide)) (ha 9 (by decide) (by decide)) (ha 14 (by decide) (by decide)) (fun t h => ht t (by simp; omega)), RRm_tr h2 (fun i _ => by rw [ha 1 (by decide) (by decide)]) h12 (ht 1 (by decide)) (ht 9 (by decide)) (ht 10 (by decide)) (ht 11 (by decide)) (ht 12 (by decide)), RRp_tr h3 (hi 11 (by decide) (by decide)) (ha 10 (by decide) (by decide)) (ha 11 (by decide) (by decide)) (ht 16 (by decide)) (ht 17 (by decide)) (ht 18 (by decide)), hx, RRi_tr h5 (fun j _ => by rw [ha 2 (by decide) (by decide)]) (fun j hj => by rw [ha 1 (by decide) (by decide)]) (ht 1 (by decide)) (ht 22 (by decide)) (ht 23 (by decide)) (ht 24 (by decide)) (ht 25 (by decide)) (ht 26 (by decide)), RRt_tr h6 (hi 16 (by decide) (by decide)) (hi 21 (by decide) (by decide)) (ha 13 (by decide) (by decide)) (ht 19 (by decide)) (ht 20 (by decide)) (ht 21 (by decide))⟩
theorem r_cost {S : SP} {σ : nh_S} (hR : RR σ S) (hW : WF S) (x y : Int32) {Q : Option Value → nh_S → Prop} (hQ : ∀ τ, RR τ (nCost S x y) → Q (some (.int (aCost S x y))) τ) : nh_E kX9_cost 0 [some (.ref 0), some (.int x), some (.int y), none] [] σ Q := by
  have h12 := hW.1.2.1
  unfold aCost nCost at hQ
  refine sg_X9_cost_0 x y ?_
  rw [hR.1.2.1, ix_ref (by omega), show (99 : Int32) = nI 99 from rfl, ix_lit (by omega)]
  rcases ix_cases x (n := sP S) (by omega) with ⟨p, hp, rfl, e⟩ | ⟨e, hx⟩
  · refine ⟨fun _ => ?_, fun c => absurd ⟨p, hp, rfl⟩ c⟩
    rcases ix_cases y (n := 100) (by omega) with ⟨c, hc, rfl, e2⟩ | ⟨e2, hy⟩
    · rw [e, e2] at hQ
      refine ⟨fun _ => ⟨pk_in p 12 (by omega), ?_⟩, fun z => absurd ⟨c, by omega, rfl⟩ z⟩
      rw [pk_cl p rfl (by omega), hR.2.2.2.1.1 p hp]
      refine hQ _ (RR_x hR h12 ?_ (fun k hk _ => wa_ne σ _ _ hk) (fun _ _ _ => rfl) (fun t ht => sUp_ne S (fun q => ht (by rw [q]; decide)) p 0 c))
      obtain ⟨g1, g2, g3, g4⟩ := hR.2.2.2.1
      refine ⟨fun q hq => ?_, g2, g3, fun q hq h0 => ?_⟩
      · rw [bs_get]
        show _ = nI (sUp S 13 p 0 c 13 q 0)
        rw [sUp_at]
        by_cases e : q = p
        · rw [if_pos ⟨rfl, e⟩, if_pos ⟨e, rfl⟩]
        · rw [if_neg (fun z => e z.2), if_neg (fun z => e z.1)]
          exact g1 q hq
      · rw [wa_ne σ _ _ (show 26 ≠ 12 by decide)]
        exact g4 q hq h0
    · rw [e, e2] at hQ
      exact ⟨fun ⟨h, hh, q⟩ => absurd q (hy h (by omega)), fun _ => hQ _ hR⟩
  · rw [e] at hQ
    exact ⟨fun ⟨h, hh, q⟩ => absurd q (hx h hh), fun _ => hQ _ hR⟩
def aStore (S : SP) (x : Int32) : Int32 := match ix x (sH S) with
  | none => -1000001
  | some _ => nI (sSt S)
def nStore (S : SP) (x : Int32) : SP := match ix x (sH S) with
  | none => S
  | some h => sUp S 14 0 0 h
theorem r_store {S : SP} {σ : nh_S} (hR : RR σ S) (hW : WF S) (x : Int32) {Q : Option Value → nh_S → Prop} (hQ : ∀ τ, RR τ (nStore S x) → Q (some (.int (aStore S x))) τ) : nh_E kX9_store 0 [some (.ref 0), some (.int x), none] [] σ Q := by
  have h9 := hW.1.1
  unfold aStore nStore at hQ
  refine sg_X9_store_0 x ?_
  rw [hR.1.1, ix_ref (by omega)]
  rcases ix_cases x (n := sH S) (by omega) with ⟨h, hh, rfl, e⟩ | ⟨e, hx⟩
  · rw [e] at hQ
    refine ⟨fun _ => ?_, fun c => absurd ⟨h, hh, rfl⟩ c⟩
    rw [hR.2.2.2.1.2.1]
    refine hQ _ (RR_x hR hW.1.2.1 ?_ (fun _ _ _ => rfl) (fun j hj _ => si_ne σ 0 14 _ hj) (fun t ht => sUp_ne S (fun q => ht (by rw [q]; decide)) 0 0 h))
    obtain ⟨g1, g2, g3, g4⟩ := hR.2.2.2.1
    refine ⟨g1, ?_, ?_, g4⟩
    · rw [bs_geti]; rfl
    · rw [si_ne σ 0 14 _ (show 37 ≠ 14 by decide)]
      exact g3
  · rw [e] at hQ
    exact ⟨fun ⟨h, hh, q⟩ => absurd q (hx h hh), fun _ => hQ _ hR⟩
