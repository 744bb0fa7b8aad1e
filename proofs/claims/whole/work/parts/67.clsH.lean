/-! THE CLASS: odds, two -/
theorem nI_mx {A B : Nat} (ha : A < 2 ^ 31) (hb : B < 2 ^ 31) : (if nI A < nI B then nI B else nI A) = nI (max A B) := by
  by_cases q : A < B
  · rw [if_pos (nI_lt q hb), Nat.max_eq_right (by omega)]
  · rw [if_neg (nI_nlt (by omega) ha), Nat.max_eq_left (by omega)]
theorem nI_mn {A B : Nat} (ha : A < 2 ^ 31) (hb : B < 2 ^ 31) : (if nI A < nI B then nI A else nI B) = nI (min B A) := by
  by_cases q : A < B
  · rw [if_pos (nI_lt q hb), Nat.min_eq_right (by omega)]
  · rw [if_neg (nI_nlt (by omega) ha), Nat.min_eq_left (by omega)]
theorem c_shareOf {S : SP} {σ : nh_S} (hC : CR σ S) (hW : WF S) {a f q : Nat} (ha : a < 2 ^ 31) (hf : f < sH S) (hq : q < 4) {Q : Option Value → nh_S → Prop} (hQ : Q (some (.long (oO S a f q (sH S)))) σ) : nh_E kX3_shareOf 0 [some (.ref (σ.2.2 0 11)), some (.int (nI a)), some (.int (nI f)), some (.int (nI q)), none, none, none, none, none] [] σ Q := by
  have h9 := hW.1.1
  have ho := hC.1.1
  refine sg_X3_shareOf_0 ho _ _ _ ?_
  refine nh_loop (α := Unit) (fun i _ => nh_E kX3_shareOf 8 [some (.ref (σ.2.2 0 11)), some (.int (nI a)), some (.int (nI f)), some (.int (nI q)), some (.long (oO S a f q i)), none, some (.int (nI i)), none, none] [] σ Q) (fun _ _ => True) (sH S) ?_ ?_ (sH S) 0 () (by omega) trivial
  · intro _ _
    exact sg_X3_shareOf_8 ho _ _ _ _ _ (pk_le (sH S) (sH S) (fun _ => hQ) (fun c => by omega) hC.2.1.1 rfl)
  · intro i _ hi _ ih
    have ih := ih () trivial
    rw [oO] at ih
    refine sg_X3_shareOf_8 ho _ _ _ _ _ (pk_le (sH S) i (fun c => by omega) (fun c => ?_) hC.2.1.1 rfl)
    rw [nI_1, pk_cl q rfl (by omega), pk_cl i rfl (by omega), (hC.2.1.2.2.2.2 i hi).2.2 q hq]
    refine pk_eq i f (fun c5 => ?_) (fun c5 => ⟨pk_in q 4 hq, pk_in i 9 (by omega), ?_⟩)
    · rw [if_pos c5] at ih; exact ih
    · rw [if_neg c5] at ih
      have hh : nh_hs (nI a) (nI i) ↔ a.testBit i = true := bs_hs ha (by omega)
      by_cases e5 : a.testBit i = true
      · rw [if_pos e5] at ih
        rw [if_pos (hh.mpr e5)]
        exact ih
      · rw [if_neg e5] at ih
        rw [if_neg (fun q => e5 (hh.mp q))]
        exact ih
set_option maxHeartbeats 1000000 in
theorem c_odds {S : SP} {σ : nh_S} (hC : CR σ S) (hW : WF S) (x y z w : Int32) {Q : Option Value → nh_S → Prop} (hQ : ∀ τ, CR τ S → Q (some (.int (aOdds S x y z w))) τ) : nh_E kX8_odds 0 [some (.ref 0), some (.int x), some (.int y), some (.int z), some (.int w), none, none, none, none, none, none, none] [] σ Q := by
  have h9 := hW.1.1
  have h12 := hW.1.2.1
  have hpw : 2 ^ sH S ≤ 2 ^ 9 := pw_le h9
  have hpp := Nat.two_pow_pos (sH S)
  unfold aOdds at hQ
  refine sg_X8_odds_0 x y z w ⟨hC.1.1, ?_⟩
  rw [hC.2.1.1, ix_cls (by omega), ix_cls (by omega)]
  rcases ix_cases x (n := sH S) (by omega) with ⟨fire, hfi, rfl, e⟩ | ⟨e, hx⟩
  · refine ⟨fun c => absurd ⟨fire, hfi, rfl⟩ c, fun _ => ?_⟩
    rcases ix_cases y (n := sH S) (by omega) with ⟨f, hf, rfl, e2⟩ | ⟨e2, hy⟩
    · refine ⟨fun _ => ?_, fun c => absurd ⟨f, hf, rfl⟩ c⟩
      rcases ix_cases z (n := 4) (by omega) with ⟨q, hq, rfl, e3⟩ | ⟨e3, hz⟩
      · refine ⟨fun z => absurd z (nI_pos (by omega)), fun _ => ⟨fun z => absurd z (by rw [show (4 : Int32) = nI 4 from rfl, nI_leI (by omega) (by omega)]; omega), fun _ => ?_⟩⟩
        rcases ix_cases w (n := 2) (by omega) with ⟨k, hk, rfl, e4⟩ | ⟨e4, hw⟩
        · rw [e, e2, e3, e4] at hQ
          dsimp only at hQ
          refine ⟨fun z => absurd z (nI_pos (by omega)), fun _ => ⟨fun _ => ?_, fun z => absurd (by rw [show (1 : Int32) = nI 1 from rfl]; exact nI_le (by omega) (by omega)) z⟩⟩
          refine nh_loop (α := nh_S) (fun i τ => nh_E kX8_odds 51 [some (.ref 0), some (.int (nI fire)), some (.int (nI f)), some (.int (nI q)), some (.int (nI k)), some (.long (oS S f fire q i).1), none, some (.int (nI (oS S f fire q i).2)), some (.int (nI i)), none, none, none] [] τ Q) (fun i τ => CR τ S ∧ (oS S f fire q i).2 ≤ 1000720) (2 ^ sH S) ?_ ?_ (2 ^ sH S) 0 σ (by omega) ⟨hC, by simp [oS]⟩
          · rintro τ ⟨hCt, -⟩
            refine sg_X8_odds_51 _ _ _ _ _ _ _ ⟨hCt.1.1, ?_⟩
            rw [hCt.2.1.1, bs_full (by omega)]
            refine pk_lt (2 ^ sH S - 1) (2 ^ sH S) (fun _ => ?_) (fun c => by omega)
            have h := hQ τ hCt
            by_cases e5 : k = 0
            · rw [if_pos e5] at h
              rw [if_pos (show nI k = 0 by rw [e5]; rfl)]
              exact h
            · rw [if_neg e5] at h
              rw [if_neg (nI_ne0 (by omega) (by omega))]
              exact h
          · rintro i τ hi ⟨hCt, hbd⟩ ih
            rw [oS] at ih
            refine sg_X8_odds_51 _ _ _ _ _ _ _ ⟨hCt.1.1, ?_⟩
            rw [hCt.2.1.1, bs_full (by omega)]
            refine pk_lt (2 ^ sH S - 1) i (fun c => by omega) (fun c => ?_)
            have hh : nh_hs (nI i) (nI f) ↔ i.testBit f = true := bs_hs (by omega) (by omega)
            rw [nI_1]
            refine ⟨fun c5 => ?_, fun c5 => ?_⟩
            · rw [if_neg (fun z => c5 (hh.mpr z))] at ih
              refine c_shareOf hCt hW (by omega) hf hq ⟨_, rfl, ?_⟩
              refine ⟨fun c6 => ?_, fun c6 => ⟨hCt.1.1, hCt.1.2.2.2.1.L, ?_⟩⟩
              · rw [if_neg c6] at ih
                exact ih τ ⟨hCt, hbd⟩
              · rw [if_pos c6] at ih
                refine c_wakeBy hCt hW hf (awm := i) (by omega) (fun υ u1 u2 u3 u4 => ⟨rfl, u2.1.1, ?_⟩)
                refine c_gatherAt u2 hW isG_17 u3 u4 hfi (fun ρ r1 r2 r3 r4 r5 r6 => ⟨rfl, r2.1.1, ?_⟩)
                rw [r2.2.1.2.1, bs_full (by omega)]
                refine c_raiseAt r2 hW isG_17 (m := full S) (cm := cmF S f i fire) (by have := full_lt hW; omega) r5 r6 (full_clo hW) (fun ξ x1 x2 x3 x4 x5 => ⟨_, rfl, ?_⟩)
                have hst : ∀ v, stF S f i fire = some v → v ≤ 1000720 := fun v hv => stO_bd (m := full S) hW r6 v hv
                have hsd : (stF S f i fire).getD 500 ≤ 1000720 := by
                  cases hs : stF S f i fire with
                  | none => simp
                  | some v => exact hst v hs
                dsimp only
                rw [show stO S (cmF S f i fire) (full S) = stF S f i fire from rfl, ot_counted (fun v hv => by have := hst v hv; omega), nI_mx (by omega) (by omega)]
                exact ih ξ ⟨x2, Nat.max_le.mpr ⟨hbd, hsd⟩⟩
            · rw [if_pos (hh.mp c5)] at ih
              exact ih τ ⟨hCt, hbd⟩
        · rw [e, e2, e3, e4] at hQ
          refine ⟨fun _ => hQ _ hC, fun c1 => ⟨fun c2 => ?_, fun _ => hQ _ hC⟩⟩
          exfalso
          obtain ⟨h, hh, q⟩ := (ix_lit (x := w) (n := 1) (by omega)).mp ⟨c1, fun c3 => (fa_of_lt c3).2.1 c2⟩
          exact hw h (by omega) q
      · rw [e, e2, e3] at hQ
        refine ⟨fun _ => hQ _ hC, fun c1 => ⟨fun _ => hQ _ hC, fun c2 => ?_⟩⟩
        exfalso
        have hn := (ix_cls (x := z) (n := 4) (by omega)).mpr (fun ⟨h, hh, q⟩ => hz h hh q)
        rcases hn with q | q
        · exact c1 q
        · exact c2 (fa_of_nlt q)
    · rw [e, e2] at hQ
      exact ⟨fun c => absurd (fun ⟨h, hh, q⟩ => hy h hh q) c, fun _ => hQ _ hC⟩
  · rw [e] at hQ
    exact ⟨fun _ => hQ _ hC, fun c => absurd (fun ⟨h, hh, q⟩ => hx h hh q) c⟩
theorem cm5_bd {S : SP} {cm : Nat → Option Nat} (hcb : ∀ p v, p < sP S → cm p = some v → v ≤ 1000000) : ∀ p v, p < sP S → cm5 cm p = some v → v ≤ 1000000 := by
  intro p v hp hv
  unfold cm5 at hv
  cases hv
  cases q : cm p with
  | none => simp
  | some w => exact hcb p w hp q
set_option maxHeartbeats 1000000 in
theorem c_two {S : SP} {σ : nh_S} (hC : CR σ S) (hW : WF S) (x y z w : Int32) {Q : Option Value → nh_S → Prop} (hQ : ∀ τ, CR τ S → Q (some (.int (aTwo S x y z w))) τ) : nh_E kX8_two 0 [some (.ref 0), some (.int x), some (.int y), some (.int z), some (.int w), none, none, none, none, none, none] [] σ Q := by
  have h9 := hW.1.1
  have h12 := hW.1.2.1
  have hpw : 2 ^ sP S ≤ 2 ^ 12 := pw_le h12
  have hpp := Nat.two_pow_pos (sP S)
  unfold aTwo at hQ
  refine sg_X8_two_0 x y z w ⟨hC.1.1, ?_⟩
  rw [hC.2.1.1, ix_cls (by omega), ix_cls (by omega), ix_cls (by omega)]
  rcases ix_cases x (n := sH S) (by omega) with ⟨fi, hfi, rfl, e⟩ | ⟨e, hx⟩
  · refine ⟨fun c => absurd ⟨fi, hfi, rfl⟩ c, fun _ => ?_⟩
    rcases ix_cases y (n := sH S) (by omega) with ⟨gi, hgi, rfl, e2⟩ | ⟨e2, hy⟩
    · refine ⟨fun c => absurd ⟨gi, hgi, rfl⟩ c, fun _ => ?_⟩
      rcases ix_cases z (n := sH S) (by omega) with ⟨f, hf, rfl, e3⟩ | ⟨e3, hz⟩
      · refine ⟨fun _ => ?_, fun c => absurd ⟨f, hf, rfl⟩ c⟩
        rcases ix_cases w (n := 10000) (by omega) with ⟨r, hr, rfl, e4⟩ | ⟨e4, hw⟩
        · rw [e, e2, e3, e4] at hQ
          dsimp only at hQ
          refine ⟨fun q => absurd q (nI_pos (by omega)), fun _ => ⟨fun _ => ?_, fun q => absurd (by rw [show (9999 : Int32) = nI 9999 from rfl]; exact nI_le (by omega) (by omega)) q⟩⟩
          refine c_wakeAll hC hW hf (fun τ t1 t2 t3 t4 => ⟨rfl, t2.1.1, ?_⟩)
          refine c_gatherAt t2 hW isG_17 t3 t4 hfi (fun υ u1 u2 u3 u4 u5 u6 => ⟨rfl, u2.1.1, ?_⟩)
          rw [u2.2.1.2.1]
          refine c_countNever (S := S) (cm := cmF S f (sAw S) fi) isG_17 h12 u5 u6 (fun ρ r1 r2 => ⟨rfl, ?_⟩)
          have hCr := u2.pr hW (r1.pr (by intro k hk; simp at hk; unfold sc; omega))
          have hKr := WK_pr u3 (r1.1 13 (by simp)).2 (r1.1 14 (by simp)).2 (r1.1 15 (by simp)).2
          refine ⟨hCr.1.1, ?_⟩
          refine c_gatherAt hCr hW isG_21 hKr t4 hgi (fun ξ x1 x2 x3 x4 x5 x6 => ⟨rfl, x2.1.1, ?_⟩)
          rw [x2.2.1.2.1]
          refine c_countNever (S := S) (cm := cmF S f (sAw S) gi) isG_21 h12 x5 x6 (fun ζ z1 z2 => ⟨rfl, ?_⟩)
          have hCz := x2.pr hW (z1.pr (by intro k hk; simp at hk; unfold sc; omega))
          have z18 : ∀ p, p < sP S → ζ.2.1 18 p = ot (cm5 (cmF S f (sAw S) fi) p) := fun p hp => by
            rw [(z1.1 18 (by simp)).2, (x4.1 18 (by simp)).2]
            exact r2 p hp
          refine ⟨hCz.1.1, ?_⟩
          rw [hCz.2.1.2.1, bs_full (by omega)]
          have hb1 := cm5_bd u6
          have hb2 := cm5_bd x6
          have hb1 : ∀ p v, p < sP S → cm5 (cmF S f (sAw S) fi) p = some v → v ≤ 1000000 := hb1
          have hb2 : ∀ p v, p < sP S → cm5 (cmF S f (sAw S) gi) p = some v → v ≤ 1000000 := hb2
          refine nh_loop (α := nh_S) (fun i τ => nh_E kX8_two 137 [some (.ref 0), none, none, none, some (.int (nI r)), some (.int (nI (2 ^ sP S - 1))), some (.int (ot (tw S f (sAw S) fi gi r i))), some (.int (nI i)), none, none, none] [] τ Q) (fun i τ => CR τ S ∧ (∀ p, p < sP S → τ.2.1 18 p = ot (cm5 (cmF S f (sAw S) fi) p)) ∧ (∀ p, p < sP S → τ.2.1 22 p = ot (cm5 (cmF S f (sAw S) gi) p)) ∧ ∀ v, tw S f (sAw S) fi gi r i = some v → v ≤ 1000720) (2 ^ sP S) ?_ ?_ (2 ^ sP S) 0 ζ (by omega) ⟨hCz, z18, z2, fun v hv => by cases hv⟩
          · rintro τ ⟨hCt, -⟩
            exact sg_X8_two_137 _ _ _ _ (pk_lt (2 ^ sP S - 1) (2 ^ sP S) (fun _ => hQ τ hCt) (fun c => by omega))
          · rintro i τ hi ⟨hCt, h18, h22, hbd⟩ ih
            have hd : dif (full S) i < 2 ^ 31 := mk_lt _ _
            have hfl := full_lt hW
            rw [tw] at ih
            have l1 := rch_le hW i
            have l2 := rch_le hW (dif (full S) i)
            have c1 := cbi_lt S i (sP S)
            have c2 := cbi_lt S (dif (full S) i) (sP S)
            refine sg_X8_two_137 _ _ _ _ (pk_lt (2 ^ sP S - 1) i (fun c => by omega) (fun c => ⟨hCt.1.1, ?_⟩))
            rw [show nI (2 ^ sP S - 1) &&& (nI i ^^^ (-1)) = nI (dif (full S) i) from bs_diff (a := full S) (by omega) (by omega), nI_1]
            refine c_canBeIn hCt hW (by omega) ⟨_, rfl, hCt.1.1, ?_⟩
            refine c_canBeIn hCt hW hd ⟨_, rfl, hCt.1.1, ?_⟩
            refine c_gainOf hCt hW (by omega) ⟨_, rfl, ?_⟩
            show (nI (rch S i) < nI r → _) ∧ (¬ nI (rch S i) < nI r → _)
            refine pk_lt (rch S i) r (fun c5 => ?_) (fun c5 => ⟨hCt.1.1, ?_⟩)
            · rw [if_neg (fun q => by omega)] at ih
              exact ih τ ⟨hCt, h18, h22, hbd⟩
            · refine c_gainOf hCt hW (by omega) ⟨_, rfl, ?_⟩
              show (nI (rch S (dif (full S) i)) < nI r → _) ∧ (¬ nI (rch S (dif (full S) i)) < nI r → _)
              refine pk_lt (rch S (dif (full S) i)) r (fun c6 => ?_) (fun c6 => ⟨hCt.1.1, ?_⟩)
              · rw [if_neg (fun q => by omega)] at ih
                exact ih τ ⟨hCt, h18, h22, hbd⟩
              · rw [if_pos ⟨c5, c6⟩] at ih
                refine c_raiseAt hCt hW isG_17 (m := cbi S i (sP S)) (cm := cm5 (cmF S f (sAw S) fi)) (by omega) h18 hb1 (cbi_clo hW i) (fun υ u1 u2 u3 u4 u5 => ⟨_, rfl, ?_⟩)
                have hA := stO_bd (m := cbi S i (sP S)) hW hb1 _ (eN_st S (cmF S f (sAw S) fi) i)
                have hB := stO_bd (m := cbi S (dif (full S) i) (sP S)) hW hb2 _ (eN_st S (cmF S f (sAw S) gi) (dif (full S) i))
                have v18 : ∀ p, p < sP S → υ.2.1 18 p = ot (cm5 (cmF S f (sAw S) fi) p) := fun p hp => by rw [(u3.1 18 (by decide)).2]; exact h18 p hp
                have v22 : ∀ p, p < sP S → υ.2.1 22 p = ot (cm5 (cmF S f (sAw S) gi) p) := fun p hp => by rw [(u3.1 22 (by decide)).2]; exact h22 p hp
                have nxt : ∀ (R : Option Value → nh_S → Prop), (∀ ρ, CR ρ S → (∀ p, p < sP S → ρ.2.1 18 p = ot (cm5 (cmF S f (sAw S) fi) p)) → (∀ p, p < sP S → ρ.2.1 22 p = ot (cm5 (cmF S f (sAw S) gi) p)) → R (some (.int (nI (eN S (cmF S f (sAw S) gi) (dif (full S) i))))) ρ) → nh_E kX5_run 0 [some (.ref 21), some (.ref (υ.2.2 0 11)), some (.int (nI (cbi S (dif (full S) i) (sP S)))), none] [] υ R := by
                  intro R hR
                  refine c_raiseAt u2 hW isG_21 (m := cbi S (dif (full S) i) (sP S)) (cm := cm5 (cmF S f (sAw S) gi)) (by omega) v22 hb2 (cbi_clo hW (dif (full S) i)) (fun ρ r1 r2 r3 r4 r5 => ?_)
                  rw [eN_st]
                  exact hR ρ r2 (fun p hp => by rw [(r3.1 18 (by decide)).2]; exact v18 p hp) (fun p hp => by rw [(r3.1 22 (by decide)).2]; exact v22 p hp)
                rw [eN_st, ot_some]
                generalize eN S (cmF S f (sAw S) fi) i = A at *
                generalize eN S (cmF S f (sAw S) gi) (dif (full S) i) = B at *
                have hmx : max A B ≤ 1000720 := Nat.max_le.mpr ⟨hA, hB⟩
                dsimp only
                cases ht : tw S f (sAw S) fi gi r i with
                | none =>
                  rw [ht] at ih
                  refine ⟨fun _ => ⟨u2.1.1, nxt _ (fun ρ r2 r18 r22 => ⟨_, rfl, ?_⟩)⟩, fun q => absurd rfl q⟩
                  dsimp only
                  rw [if_pos (show ot none = -1 from rfl), nI_mx (by omega) (by omega)]
                  exact ih ρ ⟨r2, r18, r22, fun v hv => by cases hv; exact hmx⟩
                | some b =>
                  rw [ht] at ih
                  have hb := hbd b ht
                  refine ⟨fun q => absurd q (ot_m1 (by omega)), fun _ => ?_⟩
                  rw [ot_some]
                  refine pk_le b A (fun c7 => ?_) (fun c7 => ⟨u2.1.1, nxt _ (fun ρ r2 r18 r22 => ⟨_, rfl, ?_⟩)⟩)
                  · have ih := ih υ ⟨u2, v18, v22, fun v hv => by cases hv; exact Nat.le_trans (Nat.min_le_left _ _) hb⟩
                    dsimp only at ih
                    rw [Nat.min_eq_left (Nat.le_trans c7 (Nat.le_max_left A B))] at ih
                    exact ih
                  · dsimp only
                    rw [if_neg (show ¬ nI b = -1 from ot_m1 (by omega)), nI_mx (by omega) (by omega), nI_mn (by omega) (by omega)]
                    exact ih ρ ⟨r2, r18, r22, fun v hv => by cases hv; exact Nat.le_trans (Nat.min_le_left _ _) hb⟩
        · rw [e, e2, e3, e4] at hQ
          refine ⟨fun _ => hQ _ hC, fun c1 => ⟨fun c2 => ?_, fun _ => hQ _ hC⟩⟩
          exfalso
          obtain ⟨h, hh, q⟩ := (ix_lit (x := w) (n := 9999) (by omega)).mp ⟨c1, fun c3 => (fa_of_lt c3).2.1 c2⟩
          exact hw h (by omega) q
      · rw [e, e2, e3] at hQ
        exact ⟨fun c => absurd (fun ⟨h, hh, q⟩ => hz h hh q) c, fun _ => hQ _ hC⟩
    · rw [e, e2] at hQ
      exact ⟨fun _ => hQ _ hC, fun c => absurd (fun ⟨h, hh, q⟩ => hy h hh q) c⟩
  · rw [e] at hQ
    exact ⟨fun _ => hQ _ hC, fun c => absurd (fun ⟨h, hh, q⟩ => hx h hh q) c⟩
