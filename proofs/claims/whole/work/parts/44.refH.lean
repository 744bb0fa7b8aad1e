/-! THE REFERENCE: late, judge, reach, needed, two -/
def lateN (S : SP) (cm : Nat → Option Nat) (p : Nat) : Nat := if sLg S p = 0 then 0 else (match cm p with
  | none => 0
  | some v => sLg S p - 1 - v)
theorem lg_hs {S : SP} (hW : WF S) {p : Nat} (hp : p < sP S) : nh_hs (nI (lgm S)) (nI p) ↔ sLg S p ≠ 0 := by
  have := lgm_lt hW
  have := hW.1.2.1
  rw [bs_hs (by omega) (by omega)]
  unfold lgm
  rw [mk_bit]
  simp [hp]
theorem r_lateOf {S : SP} {σ : nh_S} (hR : RR σ S) (hW : WF S) {cm : Nat → Option Nat} (h18 : ∀ p, p < sP S → σ.2.1 18 p = ot (cm p)) (hb : ∀ p v, p < sP S → cm p = some v → v ≤ 1000000) {p : Nat} (hp : p < sP S) {Q : Option Value → nh_S → Prop} (hQ : Q (some (.int (nI (lateN S cm p)))) σ) : nh_E kX9_lateOf 0 [some (.ref 0), some (.int (nI p))] [] σ Q := by
  have h12 := hW.1.2.1
  have hlg := (hW.2.2.2.1.1 p hp).2
  have hh := lg_hs hW hp
  unfold lateN at hQ
  refine sg_X9_lateOf_0 _ ?_
  rw [hR.2.2.2.1.2.2.1, pk_cl p rfl (by omega), h18 p hp]
  refine ⟨fun _ => pk_in p 12 (by omega), ?_⟩
  by_cases e : sLg S p = 0
  · rw [if_pos e] at hQ
    rw [if_neg (fun q => hh.mp q e)]
    exact hQ
  · rw [if_neg e] at hQ
    rw [if_pos (hh.mpr e), hR.2.2.2.1.2.2.2 p hp e]
    cases hc : cm p with
    | none => rw [hc] at hQ; rw [if_pos ot_neg]; exact hQ
    | some v =>
      have hv := hb p v hp hc
      rw [hc] at hQ
      dsimp only at hQ
      rw [if_neg (ot_nn (by omega)), ot_some]
      by_cases e2 : sLg S p - 1 ≤ v
      · rw [if_pos (by rw [nI_leI (by omega) (by omega)]; exact e2)]
        rw [show sLg S p - 1 - v = 0 by omega] at hQ
        exact hQ
      · rw [if_neg (by rw [nI_leI (by omega) (by omega)]; exact e2), pk_sub (by omega)]
        exact hQ
noncomputable def aLate (S : SP) (x y z : Int32) : Int32 := match ix x (sH S), ix y (sH S), ix z (sP S) with
  | some fire, some f, some p => nI (lateN S (cmF S f (sAw S) fire) p)
  | _, _, _ => -1000001
theorem r_late {S : SP} {σ : nh_S} (hR : RR σ S) (hW : WF S) (x y z : Int32) {Q : Option Value → nh_S → Prop} (hQ : ∀ τ, RR τ S → Q (some (.int (aLate S x y z))) τ) : nh_E kX9_late 0 [some (.ref 0), some (.int x), some (.int y), some (.int z)] [] σ Q := by
  have h9 := hW.1.1
  have h12 := hW.1.2.1
  unfold aLate at hQ
  refine sg_X9_late_0 x y z ?_
  rw [hR.1.1, hR.1.2.1, ix_ref (by omega), ix_ref (by omega), ix_ref (by omega)]
  rcases ix_cases x (n := sH S) (by omega) with ⟨fire, hfi, rfl, e⟩ | ⟨e, hx⟩
  · refine ⟨fun c => absurd ⟨fire, hfi, rfl⟩ c, fun _ => ?_⟩
    rcases ix_cases y (n := sH S) (by omega) with ⟨f, hf, rfl, e2⟩ | ⟨e2, hy⟩
    · refine ⟨fun c => absurd ⟨f, hf, rfl⟩ c, fun _ => ?_⟩
      rcases ix_cases z (n := sP S) (by omega) with ⟨p, hp, rfl, e3⟩ | ⟨e3, hz⟩
      · rw [e, e2, e3] at hQ
        refine ⟨fun _ => ?_, fun c => absurd ⟨p, hp, rfl⟩ c⟩
        rw [hR.2.1.2.1]
        refine r_burn hR hW hfi hf (aw_lt hW) (fun τ t1 _ t3 t4 => ⟨rfl, ?_⟩)
        refine r_comeAll (hR.pr h12 t1) hW t3 (fun υ u1 u2 => ⟨rfl, ?_⟩)
        have hRu := hR.pr h12 (t1.tr (u1.pr (by decide)))
        exact r_lateOf (cm := cmF S f (sAw S) fire) hRu hW u2 (fun p v hp hv => arr_bd hW t4 hfi (hW.2.1.1 p hp).1 hv) hp ⟨_, rfl, hQ υ hRu⟩
      · rw [e, e2, e3] at hQ
        exact ⟨fun ⟨h, hh, q⟩ => absurd q (hz h hh), fun _ => hQ _ hR⟩
    · rw [e, e2] at hQ
      exact ⟨fun _ => hQ _ hR, fun ⟨h, hh, q⟩ => absurd q (hy h hh)⟩
  · rw [e] at hQ
    exact ⟨fun _ => hQ _ hR, fun ⟨h, hh, q⟩ => absurd q (hx h hh)⟩
def latO (S : SP) (cm : Nat → Option Nat) (o : Option Nat) : Nat := match o with
  | none => 0
  | some b => lateN S cm b
/-- the latest PART -/
def jb (S : SP) (cm : Nat → Option Nat) : Nat → Option Nat
  | 0 => none
  | p + 1 => if latO S cm (jb S cm p) < lateN S cm p then some p else jb S cm p
theorem jb_lt (S : SP) (cm : Nat → Option Nat) : ∀ (n b : Nat), jb S cm n = some b → b < n
  | 0, b, h => by cases h
  | n + 1, b, h => by
    rw [jb] at h
    split at h
    · cases h; omega
    · have := jb_lt S cm n b h; omega
def lgC (S : SP) (cm : Nat → Option Nat) (p : Nat) : Option Nat := if sLg S p = 0 then cm p else some (sLg S p - 1)
noncomputable def aJudge (S : SP) (x y z : Int32) : Int32 := match ix x (sH S), ix y (sH S) with
  | some fire, some f => (match ix z 2 with
    | none => -1000002
    | some w => if w = 0 then ot (jb S (cmF S f (sAw S) fire) (sP S)) else ot (stO S (lgC S (cmF S f (sAw S) fire)) (full S)))
  | _, _ => -1000001
theorem lateN_le {S : SP} (hW : WF S) {cm : Nat → Option Nat} {p : Nat} (hp : p < sP S) : lateN S cm p ≤ 1000 := by
  have := (hW.2.2.2.1.1 p hp).2
  unfold lateN
  split
  · omega
  · split <;> omega
set_option maxHeartbeats 1000000 in
theorem r_judge {S : SP} {σ : nh_S} (hR : RR σ S) (hW : WF S) (x y z : Int32) {Q : Option Value → nh_S → Prop} (hQ : ∀ τ, RR τ S → Q (some (.int (aJudge S x y z))) τ) : nh_E kX9_judge 0 [some (.ref 0), some (.int x), some (.int y), some (.int z), none, none] [] σ Q := by
  have h9 := hW.1.1
  have h12 := hW.1.2.1
  unfold aJudge at hQ
  refine sg_X9_judge_0 x y z ?_
  rw [hR.1.1, ix_ref (by omega), ix_ref (by omega), show (1 : Int32) = nI 1 from rfl, ix_lit (by omega)]
  rcases ix_cases x (n := sH S) (by omega) with ⟨fire, hfi, rfl, e⟩ | ⟨e, hx⟩
  · refine ⟨fun c => absurd ⟨fire, hfi, rfl⟩ c, fun _ => ?_⟩
    rcases ix_cases y (n := sH S) (by omega) with ⟨f, hf, rfl, e2⟩ | ⟨e2, hy⟩
    · refine ⟨fun _ => ?_, fun c => absurd ⟨f, hf, rfl⟩ c⟩
      rcases ix_cases z (n := 2) (by omega) with ⟨w, hw, rfl, e3⟩ | ⟨e3, hz⟩
      · rw [e, e2, e3] at hQ
        dsimp only at hQ
        refine ⟨fun _ => ?_, fun c => absurd ⟨w, by omega, rfl⟩ c⟩
        rw [hR.2.1.2.1]
        refine r_burn hR hW hfi hf (aw_lt hW) (fun τ t1 _ t3 t4 => ⟨rfl, ?_⟩)
        refine r_comeAll (hR.pr h12 t1) hW t3 (fun υ u1 u2 => ⟨rfl, ?_⟩)
        have hpu := t1.tr (u1.pr (by decide))
        have hRu := hR.pr h12 hpu
        have hcb : ∀ p v, p < sP S → cmF S f (sAw S) fire p = some v → v ≤ 1000000 := fun p v hp hv => arr_bd hW t4 hfi (hW.2.1.1 p hp).1 hv
        have u2 : ∀ p, p < sP S → υ.2.1 18 p = ot (cmF S f (sAw S) fire p) := u2
        generalize cmF S f (sAw S) fire = cm at *
        refine ⟨fun c => ?_, fun c => ?_⟩
        · have hw1 : w = 1 := by
            rcases (show w = 0 ∨ w = 1 by omega) with rfl | rfl
            · exact absurd rfl c
            · rfl
          subst hw1
          rw [if_neg (by omega)] at hQ
          have hcb2 : ∀ p v, p < sP S → lgC S cm p = some v → v ≤ 1000000 := by
            intro p v hp hv
            unfold lgC at hv
            by_cases e5 : sLg S p = 0
            · rw [if_pos e5] at hv; exact hcb p v hp hv
            · rw [if_neg e5] at hv; cases hv; have := (hW.2.2.2.1.1 p hp).2; omega
          refine nh_loop (α := nh_S) (fun i ρ => nh_E kX9_judge 115 [some (.ref 0), none, none, none, some (.int (nI i)), none] [] ρ Q) (fun n ρ => frA [18] υ ρ ∧ (∀ p, p < n → ρ.2.1 18 p = ot (lgC S cm p)) ∧ ∀ p, n ≤ p → ρ.2.1 18 p = υ.2.1 18 p) (sP S) ?_ ?_ (sP S) 0 υ (by omega) ⟨frA.rf _ _, fun p hp => by omega, fun _ _ => rfl⟩
          · rintro ρ ⟨r1, r2, r3⟩
            have hRr := hRu.pr h12 (r1.pr (by decide))
            refine sg_X9_judge_115 _ (pk_le (sP S) (sP S) (fun _ => ?_) (fun c => by omega) hRr.1.2.1 rfl)
            rw [hRr.1.2.1, bs_full (by omega)]
            exact r_putIn (m := full S) (cm := lgC S cm) hRr hW (by have := full_lt hW; omega) r2 hcb2 (full_clo hW) (fun ξ x1 _ => ⟨_, rfl, hQ ξ (hRr.pr h12 (x1.pr (by decide) (by decide)))⟩)
          · rintro i ρ hi ⟨r1, r2, r3⟩ ih
            have hRr := hRu.pr h12 (r1.pr (by decide))
            refine sg_X9_judge_115 _ (pk_le (sP S) i (fun c => by omega) (fun c => ?_) hRr.1.2.1 rfl)
            have hh := lg_hs hW hi
            rw [hRr.2.2.2.1.2.2.1, pk_cl i rfl (by omega), nI_1, r3 i (Nat.le_refl i), u2 i hi]
            refine ⟨⟨fun _ => pk_in i 12 (by omega), fun _ => pk_in i 12 (by omega)⟩, pk_in i 12 (by omega), ?_⟩
            refine ih _ ⟨r1.wa _ _ (by decide), fun p hp => ?_, fun p hp => ?_⟩
            · rw [bs_get]
              by_cases e5 : p = i
              · subst e5
                rw [if_pos ⟨rfl, rfl⟩]
                unfold lgC
                by_cases e6 : sLg S p = 0
                · rw [if_neg (fun q => hh.mp q e6), if_pos e6]
                · rw [if_pos (hh.mpr e6), if_neg e6, hRr.2.2.2.1.2.2.2 p hi e6]; rfl
              · rw [if_neg (fun q => e5 q.2)]
                exact r2 p (by omega)
            · rw [bs_get, if_neg (by omega)]
              exact r3 p (by omega)
        · have hw0 : w = 0 := by
            rcases (show w = 0 ∨ w = 1 by omega) with rfl | rfl
            · rfl
            · exact absurd c (by decide)
          subst hw0
          rw [if_pos rfl] at hQ
          refine nh_loop (α := Unit) (fun i _ => nh_E kX9_judge 59 [some (.ref 0), none, none, none, some (.int (ot (jb S cm i))), some (.int (nI i))] [] υ Q) (fun _ _ => True) (sP S) ?_ ?_ (sP S) 0 () (by omega) trivial
          · intro _ _
            exact sg_X9_judge_59 _ _ (pk_le (sP S) (sP S) (fun _ => hQ υ hRu) (fun c => by omega) hRu.1.2.1 rfl)
          · intro i _ hi _ ih
            have ih := ih () trivial
            refine sg_X9_judge_59 _ _ (pk_le (sP S) i (fun c => by omega) (fun c => ?_) hRu.1.2.1 rfl)
            refine r_lateOf hRu hW u2 hcb hi ⟨_, rfl, ?_⟩
            have hl1 := lateN_le (cm := cm) hW hi
            rw [jb] at ih
            dsimp only
            cases hj : jb S cm i with
            | none =>
              rw [hj] at ih
              refine ⟨fun q => absurd q (by decide), fun _ => ?_⟩
              rw [nI_1]
              by_cases e5 : latO S cm none < lateN S cm i
              · rw [if_pos e5] at ih
                rw [if_neg (nI_nle (show 0 < lateN S cm i from e5) (by omega))]
                exact ih
              · rw [if_neg e5] at ih
                have e5 : ¬ 0 < lateN S cm i := e5
                rw [if_pos (show nI (lateN S cm i) ≤ 0 from nI_le (b := 0) (by omega) (by omega))]
                exact ih
            | some b =>
              have hb2 := jb_lt S cm i b hj
              have hl2 := lateN_le (cm := cm) hW (p := b) (by omega)
              rw [hj] at ih
              refine ⟨fun _ => ?_, fun q => absurd (nI_pos' (by omega)) q⟩
              refine r_lateOf hRu hW u2 hcb (p := b) (by omega) ⟨_, rfl, ?_⟩
              rw [nI_1]
              by_cases e5 : latO S cm (some b) < lateN S cm i
              · rw [if_pos e5] at ih
                have e5 : lateN S cm b < lateN S cm i := e5
                rw [if_neg (by rw [nI_leI (by omega) (by omega)]; omega)]
                exact ih
              · rw [if_neg e5] at ih
                have e5 : ¬ lateN S cm b < lateN S cm i := e5
                rw [if_pos (by rw [nI_leI (by omega) (by omega)]; omega)]
                exact ih
      · rw [e, e2, e3] at hQ
        exact ⟨fun ⟨h, hh, q⟩ => absurd q (hz h (by omega)), fun _ => hQ _ hR⟩
    · rw [e, e2] at hQ
      exact ⟨fun ⟨h, hh, q⟩ => absurd q (hy h hh), fun _ => hQ _ hR⟩
  · rw [e] at hQ
    exact ⟨fun _ => hQ _ hR, fun ⟨h, hh, q⟩ => absurd q (hx h hh)⟩
/-- those of a SET that can be in -/
def cbi (S : SP) (m : Nat) : Nat → Nat
  | 0 => 0
  | p + 1 => cbi S m p + (if m.testBit p = true ∧ (∀ q, q < p → (sBe S p).testBit q = true → (cbi S m p).testBit q = true) then 2 ^ p else 0)
theorem cbi_lt (S : SP) (m : Nat) : ∀ n, cbi S m n < 2 ^ n
  | 0 => by simp [cbi]
  | n + 1 => by
    have ih := cbi_lt S m n
    rw [cbi, Nat.pow_succ]
    split <;> omega
theorem cbi_mk (S : SP) (m : Nat) : ∀ n, cbi S m n = mk (fun p => decide (m.testBit p = true ∧ (∀ q, q < p → (sBe S p).testBit q = true → (cbi S m p).testBit q = true))) n
  | 0 => rfl
  | n + 1 => by
    rw [cbi, mk, ← cbi_mk S m n]
    congr 1
    simp only [decide_eq_true_eq]
theorem r_canBeIn {S : SP} {σ : nh_S} (hR : RR σ S) (hW : WF S) {m : Nat} (hm : m < 2 ^ 31) {Q : Option Value → nh_S → Prop} (hQ : Q (some (.int (nI (cbi S m (sP S))))) σ) : nh_E kX9_canBeIn 0 [some (.ref 0), some (.int (nI m)), none, none] [] σ Q := by
  have h12 := hW.1.2.1
  refine sg_X9_canBeIn_0 _ ?_
  refine nh_loop (α := Unit) (fun i _ => nh_E kX9_canBeIn 4 [some (.ref 0), some (.int (nI m)), some (.int (nI (cbi S m i))), some (.int (nI i))] [] σ Q) (fun _ _ => True) (sP S) ?_ ?_ (sP S) 0 () (by omega) trivial
  · intro _ _
    exact sg_X9_canBeIn_4 _ _ _ (pk_le (sP S) (sP S) (fun _ => hQ) (fun c => by omega) hR.1.2.1 rfl)
  · intro i _ hi _ ih
    have ih := ih () trivial
    have hbe := (hW.1.2.2.1 i hi).2.2
    have hpw : 2 ^ i ≤ 2 ^ 12 := pw_le (by omega)
    have hci := cbi_lt S m i
    refine sg_X9_canBeIn_4 _ _ _ (pk_le (sP S) i (fun c => by omega) (fun c => ?_) hR.1.2.1 rfl)
    refine ⟨fun _ => pk_in i 24 (by omega), ?_⟩
    rw [pk_cl i rfl (by omega), (hR.1.2.2.1 i hi).2.2, nI_1]
    rw [cbi_mk S m i]
    rw [bs_mk (fun p => decide (m.testBit p = true ∧ (∀ q, q < p → (sBe S p).testBit q = true → (cbi S m p).testBit q = true))) (by omega) (by
      rw [← cbi_mk, bs_hs hm (by omega), bs_sub (by omega) (by omega), decide_eq_true_eq]
      constructor
      · rintro ⟨a, b⟩; exact ⟨a, fun q _ => b q⟩
      · rintro ⟨a, b⟩; exact ⟨a, fun q hq => b q (be_lt hW hi hq) hq⟩), ← cbi_mk]
    exact ih
/-- what a SET of PARTS gains -/
def gsm (S : SP) (m n : Nat) : Nat := fb_sm (fun p => if m.testBit p = true then sGa S p else 0) n
def rch (S : SP) (m : Nat) : Nat := gsm S (cbi S m (sP S)) (sP S)
theorem gsm_le {S : SP} (hW : WF S) (m : Nat) : ∀ n, n ≤ sP S → gsm S m n ≤ n * 99 := fun n hn => fb_sm_bound (fun k hk => by
  have := (hW.1.2.2.1 k (by omega)).2.1
  split <;> omega)
theorem r_reachOf {S : SP} {σ : nh_S} (hR : RR σ S) (hW : WF S) {m : Nat} (hm : m < 2 ^ 31) {Q : Option Value → nh_S → Prop} (hQ : Q (some (.int (nI (rch S m)))) σ) : nh_E kX9_reachOf 0 [some (.ref 0), some (.int (nI m)), none, none, none] [] σ Q := by
  have h12 := hW.1.2.1
  refine sg_X9_reachOf_0 _ ?_
  refine r_canBeIn hR hW hm ⟨_, rfl, ?_⟩
  have hci := cbi_lt S m (sP S)
  have hpw : 2 ^ sP S ≤ 2 ^ 12 := pw_le h12
  refine nh_loop (α := Unit) (fun i _ => nh_E kX9_reachOf 11 [some (.ref 0), none, some (.int (nI (cbi S m (sP S)))), some (.int (nI (gsm S (cbi S m (sP S)) i))), some (.int (nI i))] [] σ Q) (fun _ _ => True) (sP S) ?_ ?_ (sP S) 0 () (by omega) trivial
  · intro _ _
    exact sg_X9_reachOf_11 _ _ _ (pk_le (sP S) (sP S) (fun _ => hQ) (fun c => by omega) hR.1.2.1 rfl)
  · intro i _ hi _ ih
    have ih := ih () trivial
    refine sg_X9_reachOf_11 _ _ _ (pk_le (sP S) i (fun c => by omega) (fun c => ?_) hR.1.2.1 rfl)
    refine ⟨fun _ => pk_in i 24 (by omega), ?_⟩
    rw [pk_cl i rfl (by omega), (hR.1.2.2.1 i hi).2.1, nI_1]
    have hh : nh_hs (nI (cbi S m (sP S))) (nI i) ↔ (cbi S m (sP S)).testBit i = true := bs_hs (by omega) (by omega)
    have e1 : gsm S (cbi S m (sP S)) (i + 1) = gsm S (cbi S m (sP S)) i + (if (cbi S m (sP S)).testBit i = true then sGa S i else 0) := fb_sm_succ _ _
    rw [e1] at ih
    by_cases e : (cbi S m (sP S)).testBit i = true
    · rw [if_pos e] at ih
      rw [if_pos (hh.mpr e), nI_add]
      exact ih
    · rw [if_neg e] at ih
      rw [if_neg (fun q => e (hh.mp q)), show (0 : Int32) = nI 0 from rfl, nI_add]
      exact ih
def aReach (S : SP) (x : Int32) : Int32 := match ix x (2 ^ sP S) with
  | none => -1000001
  | some m => nI (rch S m)
theorem r_reach {S : SP} {σ : nh_S} (hR : RR σ S) (hW : WF S) (x : Int32) {Q : Option Value → nh_S → Prop} (hQ : Q (some (.int (aReach S x))) σ) : nh_E kX9_reach 0 [some (.ref 0), some (.int x)] [] σ Q := by
  have h12 := hW.1.2.1
  have hpw : 2 ^ sP S ≤ 2 ^ 12 := pw_le h12
  unfold aReach at hQ
  refine sg_X9_reach_0 x ?_
  rw [hR.1.2.1, ix_ful (by omega)]
  rcases ix_cases x (n := 2 ^ sP S) (by omega) with ⟨m, hm, rfl, e⟩ | ⟨e, hx⟩
  · rw [e] at hQ
    exact ⟨fun c => absurd ⟨m, hm, rfl⟩ c, fun _ => r_reachOf hR hW (by omega) ⟨_, rfl, hQ⟩⟩
  · rw [e] at hQ
    exact ⟨fun _ => hQ, fun ⟨h, hh, q⟩ => absurd q (hx h hh)⟩
def few (m : Nat) (o : Option Nat) : Bool := match o with
  | none => true
  | some b => decide (pop m < pop b)
/-- the fewest PARTS that reach so far -/
def ned (S : SP) (r : Nat) : Nat → Option Nat
  | 0 => none
  | m + 1 => if few m (ned S r m) = true ∧ r ≤ rch S m then some m else ned S r m
theorem ned_lt (S : SP) (r : Nat) : ∀ (n b : Nat), ned S r n = some b → b < n
  | 0, b, h => by cases h
  | n + 1, b, h => by
    rw [ned] at h
    split at h
    · cases h; omega
    · have := ned_lt S r n b h; omega
theorem pop_le (m : Nat) : pop m ≤ 12 := fb_ct_le _ _
theorem rch_le {S : SP} (hW : WF S) (m : Nat) : rch S m ≤ 1188 := by
  have := gsm_le hW (cbi S m (sP S)) (sP S) (Nat.le_refl _)
  have := hW.1.2.1
  unfold rch
  omega
def aNeeded (S : SP) (x : Int32) : Int32 := match ix x 10000 with
  | none => -1000002
  | some r => ot (ned S r (2 ^ sP S))
theorem r_needed {S : SP} {σ : nh_S} (hR : RR σ S) (hW : WF S) (x : Int32) {Q : Option Value → nh_S → Prop} (hQ : Q (some (.int (aNeeded S x))) σ) : nh_E kX9_needed 0 [some (.ref 0), some (.int x), none, none] [] σ Q := by
  have h12 := hW.1.2.1
  have hpw : 2 ^ sP S ≤ 2 ^ 12 := pw_le h12
  have hpp := Nat.two_pow_pos (sP S)
  unfold aNeeded at hQ
  refine sg_X9_needed_0 x ?_
  rw [show (9999 : Int32) = nI 9999 from rfl, ix_lit (by omega)]
  rcases ix_cases x (n := 10000) (by omega) with ⟨r, hr, rfl, e⟩ | ⟨e, hx⟩
  · rw [e] at hQ
    refine ⟨fun _ => ?_, fun c => absurd ⟨r, by omega, rfl⟩ c⟩
    refine nh_loop (α := Unit) (fun i _ => nh_E kX9_needed 19 [some (.ref 0), some (.int (nI r)), some (.int (ot (ned S r i))), some (.int (nI i))] [] σ Q) (fun _ _ => True) (2 ^ sP S) ?_ ?_ (2 ^ sP S) 0 () (by omega) trivial
    · intro _ _
      refine sg_X9_needed_19 _ _ _ ?_
      rw [hR.1.2.1, bs_full (by omega)]
      exact pk_lt (2 ^ sP S - 1) (2 ^ sP S) (fun _ => hQ) (fun c => by omega)
    · intro i _ hi _ ih
      have ih := ih () trivial
      rw [ned] at ih
      have hrl := rch_le hW i
      refine sg_X9_needed_19 _ _ _ ?_
      rw [hR.1.2.1, bs_full (by omega)]
      refine pk_lt (2 ^ sP S - 1) i (fun c => by omega) (fun c => ?_)
      rw [nI_1]
      cases hn : ned S r i with
      | none =>
        rw [hn] at ih
        refine ⟨fun _ => ?_, fun q => absurd ot_neg q⟩
        refine r_reachOf hR hW (by omega) ⟨_, rfl, ?_⟩
        by_cases e5 : r ≤ rch S i
        · rw [if_pos ⟨rfl, e5⟩] at ih
          rw [if_neg (by rw [nI_ltI (by omega) (by omega)]; omega)]
          exact ih
        · rw [if_neg (fun q => e5 q.2)] at ih
          rw [if_pos (by rw [nI_ltI (by omega) (by omega)]; omega)]
          exact ih
      | some b =>
        have hb := ned_lt S r i b hn
        rw [hn] at ih
        have p1 := pop_le i
        have p2 := pop_le b
        refine ⟨fun q => absurd q (ot_nn (by omega)), fun _ => ?_⟩
        refine r_ones (by omega) ⟨_, rfl, ?_⟩
        refine r_ones (m := b) (by omega) ⟨_, rfl, ?_⟩
        refine pk_le (pop b) (pop i) (fun c5 => ?_) (fun c5 => ?_)
        · rw [if_neg (fun q => by have := of_decide_eq_true q.1; omega)] at ih
          exact ih
        · refine r_reachOf hR hW (by omega) ⟨_, rfl, ?_⟩
          by_cases e5 : r ≤ rch S i
          · rw [if_pos ⟨decide_eq_true c5, e5⟩] at ih
            rw [if_neg (by rw [nI_ltI (by omega) (by omega)]; omega)]
            exact ih
          · rw [if_neg (fun q => e5 q.2)] at ih
            rw [if_pos (by rw [nI_ltI (by omega) (by omega)]; omega)]
            exact ih
  · rw [e] at hQ
    exact ⟨fun ⟨h, hh, q⟩ => absurd q (hx h (by omega)), fun _ => hQ⟩
