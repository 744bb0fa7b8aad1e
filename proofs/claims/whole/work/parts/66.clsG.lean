/-! THE CLASS: late, judge, reach, needed -/
theorem c_lateBy {S : SP} {σ : nh_S} (hC : CR σ S) (hW : WF S) {cm : Nat → Option Nat} (hb : ∀ p v, p < sP S → cm p = some v → v ≤ 1000000) {p : Nat} (hp : p < sP S) {Q : Option Value → nh_S → Prop} (hQ : Q (some (.int (nI (lateN S cm p)))) σ) : nh_E kX8_lateBy 0 [some (.ref 0), some (.int (nI p)), some (.int (ot (cm p)))] [] σ Q := by
  have h12 := hW.1.2.1
  have hlg := (hW.2.2.2.1.1 p hp).2
  have hz := lgo_m1 hW hp
  unfold lateN at hQ
  refine sg_X8_lateBy_0 _ _ ⟨pk_in p 12 (by omega), ?_⟩
  rw [pk_cl p rfl (by omega), hC.2.2.2.2.1.2.2 p hp]
  refine ⟨fun c => ?_, fun c => ?_⟩
  · rw [if_pos (hz.mp c)] at hQ
    exact hQ
  · have e : ¬ sLg S p = 0 := fun q => c (hz.mpr q)
    rw [if_neg e] at hQ
    have el : lgo S p = some (sLg S p - 1) := by unfold lgo; rw [if_neg e]
    cases hc : cm p with
    | none =>
      rw [hc] at hQ
      exact ⟨fun q => absurd rfl q, fun _ => hQ⟩
    | some v =>
      rw [hc] at hQ
      dsimp only at hQ
      have hv := hb p v hp hc
      refine ⟨fun _ => ?_, fun q => absurd q (ot_m1 (by omega))⟩
      rw [el, ot_some, ot_some]
      by_cases e2 : sLg S p - 1 ≤ v
      · rw [if_neg (by
          rw [Int32.lt_iff_toInt_lt, pk_sub_toInt (by omega) (by omega)]
          show ¬ ((0 : Int) < _)
          omega)]
        rw [show sLg S p - 1 - v = 0 by omega] at hQ
        exact hQ
      · rw [pk_sub (by omega), if_pos (by
          rw [show (0 : Int32) = nI 0 from rfl]
          exact nI_lt (by omega) (by omega))]
        exact hQ
theorem c_late {S : SP} {σ : nh_S} (hC : CR σ S) (hW : WF S) (x y z : Int32) {Q : Option Value → nh_S → Prop} (hQ : ∀ τ, CR τ S → Q (some (.int (aLate S x y z))) τ) : nh_E kX8_late 0 [some (.ref 0), some (.int x), some (.int y), some (.int z)] [] σ Q := by
  have h9 := hW.1.1
  have h12 := hW.1.2.1
  unfold aLate at hQ
  refine sg_X8_late_0 x y z ⟨hC.1.1, ?_⟩
  rw [hC.2.1.1, hC.2.1.2.1, ix_cls (by omega), ix_cls (by omega), ix_cls (by omega)]
  rcases ix_cases x (n := sH S) (by omega) with ⟨fire, hfi, rfl, e⟩ | ⟨e, hx⟩
  · refine ⟨fun c => absurd ⟨fire, hfi, rfl⟩ c, fun _ => ?_⟩
    rcases ix_cases y (n := sH S) (by omega) with ⟨f, hf, rfl, e2⟩ | ⟨e2, hy⟩
    · refine ⟨fun c => absurd ⟨f, hf, rfl⟩ c, fun _ => ?_⟩
      rcases ix_cases z (n := sP S) (by omega) with ⟨p, hp, rfl, e3⟩ | ⟨e3, hz⟩
      · rw [e, e2, e3] at hQ
        refine ⟨fun _ => ?_, fun c => absurd ⟨p, hp, rfl⟩ c⟩
        refine c_wakeAll hC hW hf (fun τ t1 t2 t3 t4 => ⟨rfl, t2.1.1, pk_in p 12 (by omega), ?_⟩)
        rw [pk_cl p rfl (by omega), (t2.2.2.1.1 p hp).1]
        refine c_arrival t2.1.1 t2.2.1 hW.1 t3 t4 (hW.2.1.1 p hp).1 hfi ⟨_, rfl, ?_⟩
        exact c_lateBy (cm := cmF S f (sAw S) fire) t2 hW (fun p v hp hv => arr_bd hW t4 hfi (hW.2.1.1 p hp).1 hv) hp ⟨_, rfl, hQ τ t2⟩
      · rw [e, e2, e3] at hQ
        exact ⟨fun c => absurd (fun ⟨h, hh, q⟩ => hz h hh q) c, fun _ => hQ _ hC⟩
    · rw [e, e2] at hQ
      exact ⟨fun _ => hQ _ hC, fun c => absurd (fun ⟨h, hh, q⟩ => hy h hh q) c⟩
  · rw [e] at hQ
    exact ⟨fun _ => hQ _ hC, fun c => absurd (fun ⟨h, hh, q⟩ => hx h hh q) c⟩
theorem c_findLatest {S : SP} {σ : nh_S} (hC : CR σ S) (hW : WF S) {cm : Nat → Option Nat} (h18 : ∀ p, p < sP S → σ.2.1 18 p = ot (cm p)) (hb : ∀ p v, p < sP S → cm p = some v → v ≤ 1000000) {Q : Option Value → nh_S → Prop} (hQ : Q (some (.int (ot (jb S cm (sP S))))) σ) : nh_E kX8_findLatest 0 [some (.ref 0), none, none, none, none] [] σ Q := by
  have h12 := hW.1.2.1
  refine sg_X8_findLatest_0 ?_
  refine nh_loop (α := Unit) (fun i _ => nh_E kX8_findLatest 6 [some (.ref 0), some (.int (ot (jb S cm i))), some (.int (nI (latO S cm (jb S cm i)))), some (.int (nI i)), none] [] σ Q) (fun _ _ => True) (sP S) ?_ ?_ (sP S) 0 () (by omega) trivial
  · intro _ _
    exact sg_X8_findLatest_6 _ _ _ ⟨hC.1.1, pk_le (sP S) (sP S) (fun _ => hQ) (fun c => by omega) hC.2.1.2.1 rfl⟩
  · intro i _ hi _ ih
    have ih := ih () trivial
    have hl1 := lateN_le (cm := cm) hW hi
    have hl2 : latO S cm (jb S cm i) ≤ 1000 := by
      cases hj : jb S cm i with
      | none => exact Nat.zero_le _
      | some b =>
        have := jb_lt S cm i b hj
        exact lateN_le (cm := cm) hW (p := b) (by omega)
    rw [jb] at ih
    refine sg_X8_findLatest_6 _ _ _ ⟨hC.1.1, pk_le (sP S) i (fun c => by omega) (fun _ => ⟨pk_in i 12 (by omega), ?_⟩) hC.2.1.2.1 rfl⟩
    rw [pk_cl i rfl (by omega), h18 i hi]
    refine c_lateBy hC hW hb hi ⟨_, rfl, ?_⟩
    rw [nI_1]
    refine pk_le (lateN S cm i) (latO S cm (jb S cm i)) (fun c => ?_) (fun c => ?_)
    · rw [if_neg (by omega)] at ih
      exact ih
    · rw [if_pos c] at ih
      exact ih
theorem c_standsByLog {S : SP} {σ : nh_S} (hC : CR σ S) (hW : WF S) {cm : Nat → Option Nat} (h18 : ∀ p, p < sP S → σ.2.1 18 p = ot (cm p)) (hcb : ∀ p v, p < sP S → cm p = some v → v ≤ 1000000) {Q : Option Value → nh_S → Prop} (hQ : ∀ τ, CR τ S → Q (some (.int (ot (stO S (lgC S cm) (full S))))) τ) : nh_E kX8_standsByLog 0 [some (.ref 0), none] [] σ Q := by
  have h12 := hW.1.2.1
  have hcb2 : ∀ p v, p < sP S → lgC S cm p = some v → v ≤ 1000000 := by
    intro p v hp hv
    unfold lgC at hv
    by_cases e5 : sLg S p = 0
    · rw [if_pos e5] at hv; exact hcb p v hp hv
    · rw [if_neg e5] at hv; cases hv; have := (hW.2.2.2.1.1 p hp).2; omega
  refine sg_X8_standsByLog_0 ?_
  refine nh_loop (α := nh_S) (fun i ρ => nh_E kX8_standsByLog 2 [some (.ref 0), some (.int (nI i))] [] ρ Q) (fun n ρ => frC [18] σ ρ ∧ (∀ p, p < n → ρ.2.1 18 p = ot (lgC S cm p)) ∧ ∀ p, n ≤ p → ρ.2.1 18 p = σ.2.1 18 p) (sP S) ?_ ?_ (sP S) 0 σ (by omega) ⟨frC.rf _ _, fun p hp => by omega, fun _ _ => rfl⟩
  · rintro ρ ⟨r1, r2, r3⟩
    have hCr := hC.pr hW (r1.pr (by intro k hk; simp at hk; unfold sc; omega))
    refine sg_X8_standsByLog_2 _ ⟨hCr.1.1, pk_le (sP S) (sP S) (fun _ => ?_) (fun c => by omega) hCr.2.1.2.1 rfl⟩
    rw [hCr.2.1.2.1, bs_full (by omega)]
    exact c_raiseAt hCr hW isG_17 (m := full S) (cm := lgC S cm) (by have := full_lt hW; omega) r2 hcb2 (full_clo hW) (fun ξ x1 x2 _ _ _ => ⟨_, rfl, hQ ξ x2⟩)
  · rintro i ρ hi ⟨r1, r2, r3⟩ ih
    have hCr := hC.pr hW (r1.pr (by intro k hk; simp at hk; unfold sc; omega))
    have hz := lgo_m1 hW hi
    refine sg_X8_standsByLog_2 _ ⟨hCr.1.1, pk_le (sP S) i (fun c => by omega) (fun _ => ⟨pk_in i 12 (by omega), ?_⟩) hCr.2.1.2.1 rfl⟩
    rw [pk_cl i rfl (by omega), hCr.2.2.2.2.1.2.2 i hi, nI_1]
    refine ⟨fun c => ?_, fun c => ?_⟩
    · refine ih ρ ⟨r1, fun p hp => ?_, fun p hp => r3 p (by omega)⟩
      by_cases e5 : p = i
      · subst e5
        rw [r3 p (Nat.le_refl p), h18 p hi]
        unfold lgC
        rw [if_pos (hz.mp c)]
      · exact r2 p (by omega)
    · refine ih _ ⟨r1.wa _ _ (by decide), fun p hp => ?_, fun p hp => ?_⟩
      · rw [bs_get]
        by_cases e5 : p = i
        · subst e5
          have e6 : ¬ sLg S p = 0 := fun q => c (hz.mpr q)
          rw [if_pos ⟨rfl, rfl⟩]
          unfold lgC lgo
          rw [if_neg e6, if_neg e6]
        · rw [if_neg (fun q => e5 q.2)]
          exact r2 p (by omega)
      · rw [bs_get, if_neg (by omega)]
        exact r3 p (by omega)
theorem c_judge {S : SP} {σ : nh_S} (hC : CR σ S) (hW : WF S) (x y z : Int32) {Q : Option Value → nh_S → Prop} (hQ : ∀ τ, CR τ S → Q (some (.int (aJudge S x y z))) τ) : nh_E kX8_judge 0 [some (.ref 0), some (.int x), some (.int y), some (.int z)] [] σ Q := by
  have h9 := hW.1.1
  have h12 := hW.1.2.1
  unfold aJudge at hQ
  refine sg_X8_judge_0 x y z ⟨hC.1.1, ?_⟩
  rw [hC.2.1.1, ix_cls (by omega), ix_cls (by omega)]
  rcases ix_cases x (n := sH S) (by omega) with ⟨fire, hfi, rfl, e⟩ | ⟨e, hx⟩
  · refine ⟨fun c => absurd ⟨fire, hfi, rfl⟩ c, fun _ => ?_⟩
    rcases ix_cases y (n := sH S) (by omega) with ⟨f, hf, rfl, e2⟩ | ⟨e2, hy⟩
    · refine ⟨fun _ => ?_, fun c => absurd ⟨f, hf, rfl⟩ c⟩
      rcases ix_cases z (n := 2) (by omega) with ⟨w, hw, rfl, e3⟩ | ⟨e3, hz⟩
      · rw [e, e2, e3] at hQ
        dsimp only at hQ
        refine ⟨fun q => absurd q (nI_pos (by omega)), fun _ => ⟨fun _ => ?_, fun q => absurd (by rw [show (1 : Int32) = nI 1 from rfl]; exact nI_le (by omega) (by omega)) q⟩⟩
        refine c_wakeAll hC hW hf (fun τ t1 t2 t3 t4 => ⟨rfl, t2.1.1, ?_⟩)
        refine c_gatherAt t2 hW isG_17 t3 t4 hfi (fun υ u1 u2 u3 u4 u5 u6 => ⟨rfl, ?_⟩)
        refine ⟨fun c => ?_, fun c => ?_⟩
        · have hw1 : w = 1 := by
            rcases (show w = 0 ∨ w = 1 by omega) with rfl | rfl
            · exact absurd rfl c
            · rfl
          subst hw1
          rw [if_neg (by omega)] at hQ
          exact c_standsByLog (cm := cmF S f (sAw S) fire) u2 hW u5 u6 (fun ρ hr => ⟨_, rfl, hQ ρ hr⟩)
        · have hw0 : w = 0 := by
            rcases (show w = 0 ∨ w = 1 by omega) with rfl | rfl
            · rfl
            · exact absurd c (by decide)
          subst hw0
          rw [if_pos rfl] at hQ
          exact c_findLatest (cm := cmF S f (sAw S) fire) u2 hW u5 u6 ⟨_, rfl, hQ υ u2⟩
      · rw [e, e2, e3] at hQ
        refine ⟨fun _ => hQ _ hC, fun c1 => ⟨fun c2 => ?_, fun _ => hQ _ hC⟩⟩
        exfalso
        obtain ⟨h, hh, q⟩ := (ix_lit (x := z) (n := 1) (by omega)).mp ⟨c1, fun c3 => (fa_of_lt c3).2.1 c2⟩
        exact hz h (by omega) q
    · rw [e, e2] at hQ
      exact ⟨fun c => absurd (fun ⟨h, hh, q⟩ => hy h hh q) c, fun _ => hQ _ hC⟩
  · rw [e] at hQ
    exact ⟨fun _ => hQ _ hC, fun c => absurd (fun ⟨h, hh, q⟩ => hx h hh q) c⟩
theorem c_canBeIn {S : SP} {σ : nh_S} (hC : CR σ S) (hW : WF S) {m : Nat} (hm : m < 2 ^ 31) {Q : Option Value → nh_S → Prop} (hQ : Q (some (.int (nI (cbi S m (sP S))))) σ) : nh_E kX3_canBeIn 0 [some (.ref (σ.2.2 0 11)), some (.int (nI m)), none, none] [] σ Q := by
  have h12 := hW.1.2.1
  have ho := hC.1.1
  refine sg_X3_canBeIn_0 ho _ ?_
  refine nh_loop (α := Unit) (fun i _ => nh_E kX3_canBeIn 4 [some (.ref (σ.2.2 0 11)), some (.int (nI m)), some (.int (nI (cbi S m i))), some (.int (nI i))] [] σ Q) (fun _ _ => True) (sP S) ?_ ?_ (sP S) 0 () (by omega) trivial
  · intro _ _
    exact sg_X3_canBeIn_4 ho _ _ _ (pk_le (sP S) (sP S) (fun _ => hQ) (fun c => by omega) hC.2.1.2.1 rfl)
  · intro i _ hi _ ih
    have ih := ih () trivial
    have hbe := (hW.1.2.2.1 i hi).2.2
    have hpw : 2 ^ i ≤ 2 ^ 12 := pw_le (by omega)
    have hci := cbi_lt S m i
    refine sg_X3_canBeIn_4 ho _ _ _ (pk_le (sP S) i (fun c => by omega) (fun c => ?_) hC.2.1.2.1 rfl)
    rw [pk_cl i rfl (by omega), (hC.2.1.2.2.1 i hi).2.2, nI_1, bs_hs hm (by omega), bs_sub (by omega) (by omega)]
    have hiff : (∀ q, (sBe S i).testBit q = true → (cbi S m i).testBit q = true) ↔ (∀ q, q < i → (sBe S i).testBit q = true → (cbi S m i).testBit q = true) := ⟨fun h q _ => h q, fun h q hq => h q (be_lt hW hi hq) hq⟩
    rw [hiff]
    refine ⟨fun c1 => ?_, fun c1 => ⟨pk_in i 12 (by omega), fun c2 => ?_, fun c2 => ?_⟩⟩
    · rw [cbi, if_neg (fun q => c1 q.1), Nat.add_zero] at ih
      exact ih
    · rw [cbi, if_neg (fun q => c2 q.2), Nat.add_zero] at ih
      exact ih
    · have e := bs_mkT (fun p => decide (m.testBit p = true ∧ (∀ q, q < p → (sBe S p).testBit q = true → (cbi S m p).testBit q = true))) (p := i) (by omega) (decide_eq_true ⟨c1, c2⟩)
      rw [← cbi_mk, ← cbi_mk] at e
      rw [e]
      exact ih
theorem c_gainOf {S : SP} {σ : nh_S} (hC : CR σ S) (hW : WF S) {m : Nat} (hm : m < 2 ^ 31) {Q : Option Value → nh_S → Prop} (hQ : Q (some (.int (nI (gsm S m (sP S))))) σ) : nh_E kX3_gainOf 0 [some (.ref (σ.2.2 0 11)), some (.int (nI m)), none, none] [] σ Q := by
  have h12 := hW.1.2.1
  have ho := hC.1.1
  refine sg_X3_gainOf_0 ho _ ?_
  refine nh_loop (α := Unit) (fun i _ => nh_E kX3_gainOf 4 [some (.ref (σ.2.2 0 11)), some (.int (nI m)), some (.int (nI (gsm S m i))), some (.int (nI i))] [] σ Q) (fun _ _ => True) (sP S) ?_ ?_ (sP S) 0 () (by omega) trivial
  · intro _ _
    exact sg_X3_gainOf_4 ho _ _ _ (pk_le (sP S) (sP S) (fun _ => hQ) (fun c => by omega) hC.2.1.2.1 rfl)
  · intro i _ hi _ ih
    have ih := ih () trivial
    have e1 : gsm S m (i + 1) = gsm S m i + (if m.testBit i = true then sGa S i else 0) := fb_sm_succ _ _
    rw [e1] at ih
    refine sg_X3_gainOf_4 ho _ _ _ (pk_le (sP S) i (fun c => by omega) (fun c => ?_) hC.2.1.2.1 rfl)
    rw [pk_cl i rfl (by omega), (hC.2.1.2.2.1 i hi).2.1, nI_1, bs_hs hm (by omega), nI_add]
    refine ⟨fun c1 => ?_, fun c1 => ⟨pk_in i 12 (by omega), ?_⟩⟩
    · rw [if_neg c1] at ih; exact ih
    · rw [if_pos c1] at ih; exact ih
theorem c_reach {S : SP} {σ : nh_S} (hC : CR σ S) (hW : WF S) (x : Int32) {Q : Option Value → nh_S → Prop} (hQ : Q (some (.int (aReach S x))) σ) : nh_E kX8_reach 0 [some (.ref 0), some (.int x)] [] σ Q := by
  have h12 := hW.1.2.1
  have hpw : 2 ^ sP S ≤ 2 ^ 12 := pw_le h12
  unfold aReach at hQ
  refine sg_X8_reach_0 x ⟨hC.1.1, ?_⟩
  rw [hC.2.1.2.1, bs_bey (by omega)]
  rcases ix_cases x (n := 2 ^ sP S) (by omega) with ⟨m, hm, rfl, e⟩ | ⟨e, hx⟩
  · rw [e] at hQ
    refine ⟨fun _ => ?_, fun c => absurd ⟨m, hm, rfl⟩ c⟩
    have hci := cbi_lt S m (sP S)
    exact c_canBeIn hC hW (by omega) ⟨_, rfl, c_gainOf hC hW (by omega) ⟨_, rfl, hQ⟩⟩
  · rw [e] at hQ
    exact ⟨fun c => absurd (fun ⟨h, hh, q⟩ => hx h hh q) c, fun _ => hQ⟩
theorem c_needed {S : SP} {σ : nh_S} (hC : CR σ S) (hW : WF S) (x : Int32) {Q : Option Value → nh_S → Prop} (hQ : Q (some (.int (aNeeded S x))) σ) : nh_E kX8_needed 0 [some (.ref 0), some (.int x), none, none, none] [] σ Q := by
  have h12 := hW.1.2.1
  have hpw : 2 ^ sP S ≤ 2 ^ 12 := pw_le h12
  have hpp := Nat.two_pow_pos (sP S)
  unfold aNeeded at hQ
  refine sg_X8_needed_0 x ?_
  rcases ix_cases x (n := 10000) (by omega) with ⟨r, hr, rfl, e⟩ | ⟨e, hx⟩
  · rw [e] at hQ
    refine ⟨fun q => absurd q (nI_pos (by omega)), fun _ => ⟨fun _ => ?_, fun q => absurd (by rw [show (9999 : Int32) = nI 9999 from rfl]; exact nI_le (by omega) (by omega)) q⟩⟩
    refine nh_loop (α := Unit) (fun i _ => nh_E kX8_needed 18 [some (.ref 0), some (.int (nI r)), some (.int (ot (ned S r i))), some (.int (nI i)), none] [] σ Q) (fun _ _ => True) (2 ^ sP S) ?_ ?_ (2 ^ sP S) 0 () (by omega) trivial
    · intro _ _
      refine sg_X8_needed_18 _ _ _ ⟨hC.1.1, ?_⟩
      rw [hC.2.1.2.1, bs_full (by omega)]
      exact pk_lt (2 ^ sP S - 1) (2 ^ sP S) (fun _ => hQ) (fun c => by omega)
    · intro i _ hi _ ih
      have ih := ih () trivial
      rw [ned] at ih
      have hrl := rch_le hW i
      have hci := cbi_lt S i (sP S)
      refine sg_X8_needed_18 _ _ _ ⟨hC.1.1, ?_⟩
      rw [hC.2.1.2.1, bs_full (by omega)]
      refine pk_lt (2 ^ sP S - 1) i (fun c => by omega) (fun c => ?_)
      rw [nI_1]
      cases hn : ned S r i with
      | none =>
        rw [hn] at ih
        refine ⟨fun _ => ?_, fun q => absurd rfl q⟩
        refine c_canBeIn hC hW (by omega) ⟨_, rfl, c_gainOf hC hW (by omega) ⟨_, rfl, ?_⟩⟩
        show (nI (rch S i) < nI r → _) ∧ (¬ nI (rch S i) < nI r → _)
        refine pk_lt (rch S i) r (fun c5 => ?_) (fun c5 => ?_)
        · rw [if_neg (fun q => by omega)] at ih
          exact ih
        · rw [if_pos ⟨rfl, c5⟩] at ih
          exact ih
      | some b =>
        have hb := ned_lt S r i b hn
        rw [hn] at ih
        have p1 := pop_le i
        have p2 := pop_le b
        refine ⟨fun q => absurd q (ot_m1 (by omega)), fun _ => ?_⟩
        refine c_bitCount (by omega) ⟨_, rfl, ?_⟩
        refine c_bitCount (m := b) (by omega) ⟨_, rfl, ?_⟩
        refine ⟨fun c5 => ?_, fun c5 => ⟨hC.1.1, ?_⟩⟩
        · have c5 := Classical.not_not.mp c5
          rw [nI_leI (by omega) (by omega)] at c5
          rw [if_neg (fun q => by have := of_decide_eq_true q.1; omega)] at ih
          exact ih
        · rw [nI_leI (by omega) (by omega)] at c5
          refine c_canBeIn hC hW (by omega) ⟨_, rfl, c_gainOf hC hW (by omega) ⟨_, rfl, ?_⟩⟩
          show (nI (rch S i) < nI r → _) ∧ (¬ nI (rch S i) < nI r → _)
          refine pk_lt (rch S i) r (fun c6 => ?_) (fun c6 => ?_)
          · rw [if_neg (fun q => by omega)] at ih
            exact ih
          · rw [if_pos ⟨decide_eq_true (by omega), c6⟩] at ih
            exact ih
  · rw [e] at hQ
    refine ⟨fun _ => hQ, fun c1 => ⟨fun c2 => ?_, fun _ => hQ⟩⟩
    exfalso
    obtain ⟨h, hh, q⟩ := (ix_lit (x := x) (n := 9999) (by omega)).mp ⟨c1, fun c3 => (fa_of_lt c3).2.1 c2⟩
    exact hx h (by omega) q
