/-! THE REFERENCE: two fires, odds, night -/
theorem cbi_sub {S : SP} {m : Nat} : ∀ {n k q : Nat}, (cbi S m n).testBit q = true → (cbi S m (n + k)).testBit q = true := by
  intro n k q h
  rw [cbi_mk, mk_bit] at h ⊢
  simp only [Bool.and_eq_true, decide_eq_true_eq] at h ⊢
  exact ⟨by omega, h.2⟩
theorem cbi_clo {S : SP} (hW : WF S) (m : Nat) : clo S (cbi S m (sP S)) := by
  intro p hp hb q hq
  have hlt := be_lt hW hp hq
  rw [cbi_mk, mk_bit] at hb
  simp only [Bool.and_eq_true, decide_eq_true_eq] at hb
  have h2 := cbi_sub (k := sP S - p) (hb.2.2 q hlt hq)
  rw [show p + (sP S - p) = sP S by omega] at h2
  exact h2
/-- 500 in place of a PART that never comes -/
def cm5 (cm : Nat → Option Nat) (p : Nat) : Option Nat := some ((cm p).getD 500)
theorem miss5 (cm : Nat → Option Nat) (m : Nat) : ∀ n, miss (cm5 cm) m n = false
  | 0 => rfl
  | n + 1 => by
    show (miss (cm5 cm) m n || (m.testBit n && (cm5 cm n).isNone)) = false
    rw [miss5 cm m n]
    simp [cm5]
def eN (S : SP) (cm : Nat → Option Nat) (m : Nat) : Nat := stT S (cmN (cm5 cm)) (ord S (cmN (cm5 cm)) (cbi S m (sP S)) (sP S))
theorem eN_st (S : SP) (cm : Nat → Option Nat) (m : Nat) : stO S (cm5 cm) (cbi S m (sP S)) = some (eN S cm m) := by
  unfold stO
  rw [if_neg (by rw [miss5]; decide)]
  rfl
theorem ot_held {o : Option Nat} (hb : ∀ v, o = some v → v < 2 ^ 31) : (if 0 ≤ ot o then ot o else 500) = nI (o.getD 500) := by
  cases o with
  | none => rw [if_neg (by decide)]; rfl
  | some v => rw [ot_some, if_pos (nI_pos' (hb v rfl))]; rfl
theorem r_endAt {S : SP} {σ : nh_S} (hR : RR σ S) (hW : WF S) {fire f m : Nat} (hfi : fire < sH S) (hf : f < sH S) (hm : m < 2 ^ 31) {Q : Option Value → nh_S → Prop}
    (hQ : ∀ τ, pr σ τ → eN S (cmF S f (sAw S) fire) m ≤ 1000720 → Q (some (.int (nI (eN S (cmF S f (sAw S) fire) m)))) τ) : nh_E kX9_endAt 0 [some (.ref 0), some (.int (nI fire)), some (.int (nI f)), some (.int (nI m)), none] [] σ Q := by
  have h9 := hW.1.1
  have h12 := hW.1.2.1
  refine sg_X9_endAt_0 _ _ _ ?_
  rw [hR.2.1.2.1]
  refine r_burn hR hW hfi hf (aw_lt hW) (fun τ t1 _ t3 t4 => ⟨rfl, ?_⟩)
  have hRt := hR.pr h12 t1
  have hcb : ∀ p v, p < sP S → cmF S f (sAw S) fire p = some v → v ≤ 1000000 := fun p v hp hv => arr_bd hW t4 hfi (hW.2.1.1 p hp).1 hv
  have hcb5 : ∀ p v, p < sP S → cm5 (cmF S f (sAw S) fire) p = some v → v ≤ 1000000 := by
    intro p v hp hv
    unfold cm5 at hv
    cases hv
    cases q : cmF S f (sAw S) fire p with
    | none => simp
    | some w => exact hcb p w hp q
  refine nh_loop (α := nh_S) (fun i υ => nh_E kX9_endAt 16 [some (.ref 0), none, none, some (.int (nI m)), some (.int (nI i))] [] υ Q) (fun n υ => frA [18] τ υ ∧ ∀ p, p < n → υ.2.1 18 p = ot (cm5 (cmF S f (sAw S) fire) p)) (sP S) ?_ ?_ (sP S) 0 τ (by omega) ⟨frA.rf _ _, fun p hp => by omega⟩
  · rintro υ ⟨u1, u2⟩
    have hRu := hRt.pr h12 (u1.pr (by decide))
    have hci := cbi_lt S m (sP S)
    have hpw : 2 ^ sP S ≤ 2 ^ 12 := pw_le h12
    refine sg_X9_endAt_16 _ _ (pk_le (sP S) (sP S) (fun _ => ?_) (fun c => by omega) hRu.1.2.1 rfl)
    refine r_canBeIn hRu hW hm ⟨_, rfl, ?_⟩
    refine r_putIn (cm := cm5 (cmF S f (sAw S) fire)) hRu hW (by omega) u2 hcb5 (cbi_clo hW m) (fun ρ r1 _ => ⟨_, rfl, ?_⟩)
    have hbd := stO_bd (m := cbi S m (sP S)) hW hcb5 _ (eN_st S (cmF S f (sAw S) fire) m)
    rw [eN_st]
    exact hQ ρ ((t1.tr (u1.pr (by decide))).tr (r1.pr (by decide) (by decide))) hbd
  · rintro i υ hi ⟨u1, u2⟩ ih
    have hRu := hRt.pr h12 (u1.pr (by decide))
    have hk := (hW.2.1.1 i hi).1
    refine sg_X9_endAt_16 _ _ (pk_le (sP S) i (fun c => by omega) (fun c => ?_) hRu.1.2.1 rfl)
    rw [pk_cl i rfl (by omega), (hRu.2.1.1 i hi).1, pk_cl (sKp S i) rfl (by omega), nI_1, u1.2 16 (by decide), t3 _ hk]
    refine ⟨pk_in i 78 (by omega), pk_in (sKp S i) 9 (by omega), pk_in i 12 (by omega), ?_⟩
    rw [ot_held (fun v hv => by have := hcb i v hi hv; omega)]
    refine ih _ ⟨u1.wa _ _ (by decide), fun p hp => ?_⟩
    rw [bs_get]
    by_cases e : p = i
    · subst e
      rw [if_pos ⟨rfl, rfl⟩]
      rfl
    · rw [if_neg (fun z => e z.2)]
      exact u2 p (by omega)
def dif (a b : Nat) : Nat := mk (fun i => a.testBit i && !b.testBit i) 31
noncomputable def tw (S : SP) (f awm fi gi r : Nat) : Nat → Option Nat
  | 0 => none
  | m + 1 => if r ≤ rch S m ∧ r ≤ rch S (dif (full S) m) then (match tw S f awm fi gi r m with
      | none => some (max (eN S (cmF S f awm fi) m) (eN S (cmF S f awm gi) (dif (full S) m)))
      | some b => some (min b (max (eN S (cmF S f awm fi) m) (eN S (cmF S f awm gi) (dif (full S) m))))) else tw S f awm fi gi r m
noncomputable def aTwo (S : SP) (x y z w : Int32) : Int32 := match ix x (sH S), ix y (sH S), ix z (sH S) with
  | some fi, some gi, some f => (match ix w 10000 with
    | none => -1000002
    | some r => ot (tw S f (sAw S) fi gi r (2 ^ sP S)))
  | _, _, _ => -1000001
set_option maxHeartbeats 1000000 in
theorem r_two {S : SP} {σ : nh_S} (hR : RR σ S) (hW : WF S) (x y z w : Int32) {Q : Option Value → nh_S → Prop} (hQ : ∀ τ, RR τ S → Q (some (.int (aTwo S x y z w))) τ) : nh_E kX9_two 0 [some (.ref 0), some (.int x), some (.int y), some (.int z), some (.int w), none, none, none, none, none, none] [] σ Q := by
  have h9 := hW.1.1
  have h12 := hW.1.2.1
  have hpw : 2 ^ sP S ≤ 2 ^ 12 := pw_le h12
  have hpp := Nat.two_pow_pos (sP S)
  unfold aTwo at hQ
  refine sg_X9_two_0 x y z w ?_
  rw [hR.1.1, ix_ref (by omega), ix_ref (by omega), ix_ref (by omega), show (9999 : Int32) = nI 9999 from rfl, ix_lit (by omega)]
  rcases ix_cases x (n := sH S) (by omega) with ⟨fi, hfi, rfl, e⟩ | ⟨e, hx⟩
  · refine ⟨fun c => absurd ⟨fi, hfi, rfl⟩ c, fun _ => ?_⟩
    rcases ix_cases y (n := sH S) (by omega) with ⟨gi, hgi, rfl, e2⟩ | ⟨e2, hy⟩
    · refine ⟨fun c => absurd ⟨gi, hgi, rfl⟩ c, fun _ => ?_⟩
      rcases ix_cases z (n := sH S) (by omega) with ⟨f, hf, rfl, e3⟩ | ⟨e3, hz⟩
      · refine ⟨fun _ => ?_, fun c => absurd ⟨f, hf, rfl⟩ c⟩
        rcases ix_cases w (n := 10000) (by omega) with ⟨r, hr, rfl, e4⟩ | ⟨e4, hw⟩
        · rw [e, e2, e3, e4] at hQ
          dsimp only at hQ
          refine ⟨fun _ => ?_, fun c => absurd ⟨r, by omega, rfl⟩ c⟩
          refine nh_loop (α := nh_S) (fun i τ => nh_E kX9_two 49 [some (.ref 0), some (.int (nI fi)), some (.int (nI gi)), some (.int (nI f)), some (.int (nI r)), some (.int (ot (tw S f (sAw S) fi gi r i))), some (.int (nI i)), none, none, none, none] [] τ Q) (fun i τ => RR τ S ∧ ∀ v, tw S f (sAw S) fi gi r i = some v → v ≤ 1000720) (2 ^ sP S) ?_ ?_ (2 ^ sP S) 0 σ (by omega) ⟨hR, fun v hv => by cases hv⟩
          · rintro τ ⟨hRt, -⟩
            refine sg_X9_two_49 _ _ _ _ _ _ ?_
            rw [hRt.1.2.1, bs_full (by omega)]
            exact pk_lt (2 ^ sP S - 1) (2 ^ sP S) (fun _ => hQ τ hRt) (fun c => by omega)
          · rintro i τ hi ⟨hRt, hbd⟩ ih
            have hd : dif (full S) i < 2 ^ 31 := mk_lt _ _
            have hfl := full_lt hW
            rw [tw] at ih
            have l1 := rch_le hW i
            have l2 := rch_le hW (dif (full S) i)
            refine sg_X9_two_49 _ _ _ _ _ _ ?_
            rw [hRt.1.2.1, bs_full (by omega)]
            refine pk_lt (2 ^ sP S - 1) i (fun c => by omega) (fun c => ?_)
            rw [show nI (2 ^ sP S - 1) &&& (nI i ^^^ (-1)) = nI (dif (full S) i) from bs_diff (a := full S) (by omega) (by omega), nI_1]
            refine r_reachOf hRt hW (by omega) ⟨_, rfl, ?_⟩
            refine pk_lt (rch S i) r (fun c5 => ?_) (fun c5 => ?_)
            · rw [if_neg (fun q => by omega)] at ih
              exact ih τ ⟨hRt, hbd⟩
            · refine r_reachOf hRt hW hd ⟨_, rfl, ?_⟩
              refine pk_lt (rch S (dif (full S) i)) r (fun c6 => ?_) (fun c6 => ?_)
              · rw [if_neg (fun q => by omega)] at ih
                exact ih τ ⟨hRt, hbd⟩
              · rw [if_pos ⟨c5, c6⟩] at ih
                refine r_endAt hRt hW hfi hf (by omega) (fun υ u1 u2 => ⟨_, rfl, ?_⟩)
                have hRu := hRt.pr h12 u1
                refine r_endAt hRu hW hgi hf hd (fun ρ r1 r2 => ⟨_, rfl, ?_⟩)
                have hRr := hRu.pr h12 r1
                generalize eN S (cmF S f (sAw S) fi) i = A at *
                generalize eN S (cmF S f (sAw S) gi) (dif (full S) i) = B at *
                have emx : (if nI A ≤ nI B then nI B else nI A) = nI (max A B) := by
                  by_cases q : A ≤ B
                  · rw [if_pos (by rw [nI_leI (by omega) (by omega)]; exact q), Nat.max_eq_right q]
                  · rw [if_neg (by rw [nI_leI (by omega) (by omega)]; exact q), Nat.max_eq_left (by omega)]
                have hmx : max A B ≤ 1000720 := Nat.max_le.mpr ⟨u2, r2⟩
                dsimp only
                rw [emx]
                cases ht : tw S f (sAw S) fi gi r i with
                | none =>
                  rw [ht] at ih
                  rw [if_pos ot_neg]
                  exact ih ρ ⟨hRr, fun v hv => by cases hv; exact hmx⟩
                | some b =>
                  rw [ht] at ih
                  have hb := hbd b ht
                  rw [if_neg (ot_nn (by omega)), ot_some]
                  have emn : (if nI b ≤ nI (max A B) then nI b else nI (max A B)) = nI (min b (max A B)) := by
                    by_cases q : b ≤ max A B
                    · rw [if_pos (by rw [nI_leI (by omega) (by omega)]; exact q), Nat.min_eq_left q]
                    · rw [if_neg (by rw [nI_leI (by omega) (by omega)]; exact q), Nat.min_eq_right (by omega)]
                  rw [emn]
                  exact ih ρ ⟨hRr, fun v hv => by cases hv; exact Nat.le_trans (Nat.min_le_left _ _) hb⟩
        · rw [e, e2, e3, e4] at hQ
          exact ⟨fun ⟨h, hh, q⟩ => absurd q (hw h (by omega)), fun _ => hQ _ hR⟩
      · rw [e, e2, e3] at hQ
        exact ⟨fun ⟨h, hh, q⟩ => absurd q (hz h hh), fun _ => hQ _ hR⟩
    · rw [e, e2] at hQ
      exact ⟨fun _ => hQ _ hR, fun ⟨h, hh, q⟩ => absurd q (hy h hh)⟩
  · rw [e] at hQ
    exact ⟨fun _ => hQ _ hR, fun ⟨h, hh, q⟩ => absurd q (hx h hh)⟩
/-- how much of a billion falls to just this SET -/
def oO (S : SP) (a f q : Nat) : Nat → Int64
  | 0 => 1000000000
  | h + 1 => if h = f then oO S a f q h else if a.testBit h = true then (oO S a f q h * (nI (sOd S q h)).toInt64) / 100 else oO S a f q h - (oO S a f q h * (nI (sOd S q h)).toInt64) / 100
theorem r_oddsOf {S : SP} {σ : nh_S} (hR : RR σ S) (hW : WF S) {a f q : Nat} (ha : a < 2 ^ 31) (hf : f < sH S) (hq : q < 4) {Q : Option Value → nh_S → Prop} (hQ : Q (some (.long (oO S a f q (sH S)))) σ) : nh_E kX9_oddsOf 0 [some (.ref 0), some (.int (nI a)), some (.int (nI f)), some (.int (nI q)), none, none, none, none, none] [] σ Q := by
  have h9 := hW.1.1
  refine sg_X9_oddsOf_0 _ _ _ ?_
  refine nh_loop (α := Unit) (fun i _ => nh_E kX9_oddsOf 8 [some (.ref 0), some (.int (nI a)), some (.int (nI f)), some (.int (nI q)), some (.long (oO S a f q i)), none, some (.int (nI i)), none, none] [] σ Q) (fun _ _ => True) (sH S) ?_ ?_ (sH S) 0 () (by omega) trivial
  · intro _ _
    exact sg_X9_oddsOf_8 _ _ _ _ _ (pk_le (sH S) (sH S) (fun _ => hQ) (fun c => by omega) hR.1.1 rfl)
  · intro i _ hi _ ih
    have ih := ih () trivial
    rw [oO] at ih
    refine sg_X9_oddsOf_8 _ _ _ _ _ (pk_le (sH S) i (fun c => by omega) (fun c => ?_) hR.1.1 rfl)
    have e6 : (6 : Int32) * nI i + 2 + nI q = nI (6 * i + 2 + q) := by rw [show (6 : Int32) = nI 6 from rfl, pk_mul, show (2 : Int32) = nI 2 from rfl, nI_add, nI_add]
    rw [e6, nI_1, pk_cl (6 * i + 2 + q) rfl (by omega), (hR.1.2.2.2.2 i hi).2.2 q hq]
    refine pk_eq i f (fun c5 => ?_) (fun c5 => ⟨pk_in (6 * i + 2 + q) 108 (by omega), ?_⟩)
    · rw [if_pos c5] at ih; exact ih
    · rw [if_neg c5] at ih
      have hh : nh_hs (nI a) (nI i) ↔ a.testBit i = true := bs_hs ha (by omega)
      by_cases e5 : a.testBit i = true
      · rw [if_pos e5] at ih
        rw [if_pos (hh.mpr e5)]
        exact ih
      · rw [if_neg e5] at ih
        rw [if_neg (fun q => e5 (hh.mp q))]
        exact ih
noncomputable def oS (S : SP) (f fire q : Nat) : Nat → Int64 × Nat
  | 0 => (0, 0)
  | a + 1 => if a.testBit f = true then oS S f fire q a else if 0 < oO S a f q (sH S) then ((oS S f fire q a).1 + oO S a f q (sH S) * (nI ((stF S f a fire).getD 500)).toInt64, max (oS S f fire q a).2 ((stF S f a fire).getD 500)) else oS S f fire q a
noncomputable def aOdds (S : SP) (x y z w : Int32) : Int32 := match ix x (sH S), ix y (sH S) with
  | some fire, some f => (match ix z 4, ix w 2 with
    | some q, some k => if k = 0 then ((oS S f fire q (2 ^ sH S)).1 / 1000000).toInt32 else nI (oS S f fire q (2 ^ sH S)).2
    | _, _ => -1000002)
  | _, _ => -1000001
set_option maxHeartbeats 1000000 in
theorem r_odds {S : SP} {σ : nh_S} (hR : RR σ S) (hW : WF S) (x y z w : Int32) {Q : Option Value → nh_S → Prop} (hQ : ∀ τ, RR τ S → Q (some (.int (aOdds S x y z w))) τ) : nh_E kX9_odds 0 [some (.ref 0), some (.int x), some (.int y), some (.int z), some (.int w), none, none, none, none, none, none, none] [] σ Q := by
  have h9 := hW.1.1
  have h12 := hW.1.2.1
  have hpw : 2 ^ sH S ≤ 2 ^ 9 := pw_le h9
  have hpp := Nat.two_pow_pos (sH S)
  unfold aOdds at hQ
  refine sg_X9_odds_0 x y z w ?_
  rw [hR.1.1, ix_ref (by omega), ix_ref (by omega), show (3 : Int32) = nI 3 from rfl, ix_lit (by omega), show (1 : Int32) = nI 1 from rfl, ix_lit (by omega)]
  rcases ix_cases x (n := sH S) (by omega) with ⟨fire, hfi, rfl, e⟩ | ⟨e, hx⟩
  · refine ⟨fun c => absurd ⟨fire, hfi, rfl⟩ c, fun _ => ?_⟩
    rcases ix_cases y (n := sH S) (by omega) with ⟨f, hf, rfl, e2⟩ | ⟨e2, hy⟩
    · refine ⟨fun _ => ?_, fun c => absurd ⟨f, hf, rfl⟩ c⟩
      rcases ix_cases z (n := 4) (by omega) with ⟨q, hq, rfl, e3⟩ | ⟨e3, hz⟩
      · refine ⟨fun c => absurd ⟨q, by omega, rfl⟩ c, fun _ => ?_⟩
        rcases ix_cases w (n := 2) (by omega) with ⟨k, hk, rfl, e4⟩ | ⟨e4, hw⟩
        · rw [e, e2, e3, e4] at hQ
          dsimp only at hQ
          refine ⟨fun _ => ?_, fun c => absurd ⟨k, by omega, rfl⟩ c⟩
          refine nh_loop (α := nh_S) (fun i τ => nh_E kX9_odds 54 [some (.ref 0), some (.int (nI fire)), some (.int (nI f)), some (.int (nI q)), some (.int (nI k)), some (.long (oS S f fire q i).1), none, some (.int (nI (oS S f fire q i).2)), some (.int (nI i)), none, none, none] [] τ Q) (fun i τ => RR τ S ∧ (oS S f fire q i).2 ≤ 1000720) (2 ^ sH S) ?_ ?_ (2 ^ sH S) 0 σ (by omega) ⟨hR, by simp [oS]⟩
          · rintro τ ⟨hRt, -⟩
            refine sg_X9_odds_54 _ _ _ _ _ _ _ ?_
            rw [hRt.1.1, bs_shl (by omega)]
            refine pk_le (2 ^ sH S) (2 ^ sH S) (fun _ => ?_) (fun c => by omega)
            have h := hQ τ hRt
            by_cases e5 : k = 0
            · rw [if_pos e5] at h
              rw [if_pos (show nI k = 0 by rw [e5]; rfl)]
              exact h
            · rw [if_neg e5] at h
              rw [if_neg (nI_ne0 (by omega) (by omega))]
              exact h
          · rintro i τ hi ⟨hRt, hbd⟩ ih
            rw [oS] at ih
            refine sg_X9_odds_54 _ _ _ _ _ _ _ ?_
            rw [hRt.1.1, bs_shl (by omega)]
            refine pk_le (2 ^ sH S) i (fun c => by omega) (fun c => ?_)
            have hh : nh_hs (nI i) (nI f) ↔ i.testBit f = true := bs_hs (by omega) (by omega)
            rw [nI_1]
            refine ⟨fun c5 => ?_, fun c5 => ?_⟩
            · rw [if_neg (fun q => c5 (hh.mpr q))] at ih
              refine r_oddsOf hRt hW (by omega) hf hq ⟨_, rfl, ?_⟩
              refine ⟨fun c6 => ?_, fun c6 => ?_⟩
              · rw [if_neg c6] at ih
                exact ih τ ⟨hRt, hbd⟩
              · rw [if_pos c6] at ih
                refine r_standsBy hRt hW hfi hf (by omega) (fun υ u1 _ u3 _ => ⟨_, rfl, ?_⟩)
                have hsb := stO_bd (m := full S) hW u3
                have hsd : (stF S f i fire).getD 500 ≤ 1000720 := by
                  unfold stF
                  cases hs : stO S (cmF S f i fire) (full S) with
                  | none => simp
                  | some v => exact hsb v hs
                dsimp only
                rw [ot_held (fun v hv => by have := hsb v hv; omega)]
                have emx : (if nI ((stO S (cmF S f i fire) (full S)).getD 500) ≤ nI (oS S f fire q i).2 then nI (oS S f fire q i).2 else nI ((stO S (cmF S f i fire) (full S)).getD 500)) = nI (max (oS S f fire q i).2 ((stF S f i fire).getD 500)) := by
                  have hsd2 : (stO S (cmF S f i fire) (full S)).getD 500 ≤ 1000720 := hsd
                  show _ = nI (max (oS S f fire q i).2 ((stO S (cmF S f i fire) (full S)).getD 500))
                  by_cases z : (stO S (cmF S f i fire) (full S)).getD 500 ≤ (oS S f fire q i).2
                  · rw [if_pos (by rw [nI_leI (by omega) (by omega)]; exact z), Nat.max_eq_left z]
                  · rw [if_neg (by rw [nI_leI (by omega) (by omega)]; exact z), Nat.max_eq_right (by omega)]
                rw [emx]
                exact ih υ ⟨hRt.pr h12 u1, Nat.max_le.mpr ⟨hbd, hsd⟩⟩
            · rw [if_pos (hh.mp c5)] at ih
              exact ih τ ⟨hRt, hbd⟩
        · rw [e, e2, e3, e4] at hQ
          exact ⟨fun ⟨h, hh, q⟩ => absurd q (hw h (by omega)), fun _ => hQ _ hR⟩
      · rw [e, e2, e3] at hQ
        exact ⟨fun _ => hQ _ hR, fun ⟨h, hh, q⟩ => absurd q (hz h (by omega))⟩
    · rw [e, e2] at hQ
      exact ⟨fun ⟨h, hh, q⟩ => absurd q (hy h hh), fun _ => hQ _ hR⟩
  · rw [e] at hQ
    exact ⟨fun _ => hQ _ hR, fun ⟨h, hh, q⟩ => absurd q (hx h hh)⟩
