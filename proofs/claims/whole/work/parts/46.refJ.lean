/-! THE REFERENCE: draws, spares -/
def drw (s : Nat) : Nat := (s * 1103515245 + 12345) % 2147483648
theorem drw_lt (s : Nat) : drw s < 2 ^ 31 := Nat.mod_lt _ (by decide)
theorem drw_ref {s : Nat} (hs : s < 2 ^ 31) : ((((nI s).toInt64 * 1103515245) + 12345) - (((nI s).toInt64 * 1103515245) + 12345) / 2147483648 * 2147483648).toInt32 = nI (drw s) := by
  have e : (nI s).toInt64 * 1103515245 + 12345 = lN (s * 1103515245 + 12345) := by
    rw [nI_l hs, show (1103515245 : Int64) = lN 1103515245 from rfl, lN_mul, show (12345 : Int64) = lN 12345 from rfl, lN_add]
  rw [e, show (2147483648 : Int64) = lN 2147483648 from rfl, pk_lRem (by omega) (by omega) (by omega), lN_i]
  rfl
theorem r_draw {S : SP} {σ : nh_S} (hs : σ.2.1 1 25 = nI (sSd S)) (hlt : sSd S < 2 ^ 31) {Q : Option Value → nh_S → Prop} (hQ : Q (some (.int (nI (drw (sSd S) / 65536 % 100)))) (nh_wa σ 1 25 (nI (drw (sSd S))))) : nh_E kX9_draw 0 [some (.ref 0), some (.int 100)] [] σ Q := by
  refine sg_X9_draw_0 _ ⟨by decide, ?_⟩
  have hd := drw_lt (sSd S)
  rw [hs, drw_ref hlt, bs_get, if_pos ⟨rfl, rfl⟩, show (65536 : Int32) = nI 65536 from rfl, pk_div hd (by omega) (by omega), show (100 : Int32) = nI 100 from rfl, pk_rem (by omega) (by omega) (by omega)]
  exact hQ
/-- THE SEED behind so many DRAWS -/
def sdq (S : SP) : Nat → Nat
  | 0 => sSd S
  | h + 1 => drw (sdq S h)
theorem sdq_lt {S : SP} (hW : WF S) : ∀ h, sdq S h < 2 ^ 31
  | 0 => hW.2.1.2.2
  | h + 1 => drw_lt _
def ngt (S : SP) (q : Nat) (h : Nat) : Bool := decide (sdq S (h + 1) / 65536 % 100 < sOd S q h)
def nNight (S : SP) (x : Int32) : SP := match ix x 4 with
  | none => S
  | some q => sUp (sUp S 12 0 0 (sdq S (sH S))) 11 0 0 (mk (ngt S q) (sH S))
def aNight (S : SP) (x : Int32) : Int32 := match ix x 4 with
  | none => -1000002
  | some q => nI (mk (ngt S q) (sH S))
theorem RR_sd {σ : nh_S} {S : SP} (hR : RR σ S) (h12 : sP S ≤ 12) (v : Nat) : RR (nh_wa σ 1 25 (nI v)) (sUp S 12 0 0 v) := by
  refine RR_w hR (by decide) ?_ (fun t ht => sUp_ne S (fun q => ht (by rw [q]; decide)) 0 0 _)
  obtain ⟨g1, g2, g3⟩ := hR.2.1
  refine ⟨fun p hp => ?_, ?_, ?_⟩
  · have hp2 : p < sP S := hp
    rw [bs_get, bs_get, if_neg (by omega), if_neg (by omega)]
    exact g1 p hp2
  · rw [bs_get]; exact g2
  · rw [bs_get]; rfl
theorem RR_aw {σ : nh_S} {S : SP} (hR : RR σ S) (h12 : sP S ≤ 12) (v : Nat) : RR (nh_wa σ 1 24 (nI v)) (sUp S 11 0 0 v) := by
  refine RR_w hR (by decide) ?_ (fun t ht => sUp_ne S (fun q => ht (by rw [q]; decide)) 0 0 _)
  obtain ⟨g1, g2, g3⟩ := hR.2.1
  refine ⟨fun p hp => ?_, ?_, ?_⟩
  · have hp2 : p < sP S := hp
    rw [bs_get, bs_get, if_neg (by omega), if_neg (by omega)]
    exact g1 p hp2
  · rw [bs_get]; rfl
  · rw [bs_get]; exact g3
theorem sUp_same (S : SP) : sUp S 12 0 0 (sSd S) = S := by
  funext t i j
  unfold sUp
  split
  · rename_i h
    obtain ⟨rfl, rfl, rfl⟩ := h
    rfl
  · rfl
theorem sUp_two (S : SP) (t i j v w : Nat) : sUp (sUp S t i j v) t i j w = sUp S t i j w := by
  funext a b c
  unfold sUp
  split <;> rfl
theorem r_night {S : SP} {σ : nh_S} (hR : RR σ S) (hW : WF S) (x : Int32) {Q : Option Value → nh_S → Prop} (hQ : ∀ τ, RR τ (nNight S x) → Q (some (.int (aNight S x))) τ) : nh_E kX9_night 0 [some (.ref 0), some (.int x), none, none] [] σ Q := by
  have h9 := hW.1.1
  have h12 := hW.1.2.1
  unfold nNight aNight at hQ
  refine sg_X9_night_0 x ?_
  rw [show (3 : Int32) = nI 3 from rfl, ix_lit (by omega)]
  rcases ix_cases x (n := 4) (by omega) with ⟨q, hq, rfl, e⟩ | ⟨e, hx⟩
  · rw [e] at hQ
    dsimp only at hQ
    refine ⟨fun _ => ?_, fun c => absurd ⟨q, by omega, rfl⟩ c⟩
    refine nh_loop (α := nh_S) (fun i τ => nh_E kX9_night 19 [some (.ref 0), some (.int (nI q)), some (.int (nI (mk (ngt S q) i))), some (.int (nI i))] [] τ Q) (fun i τ => RR τ (sUp S 12 0 0 (sdq S i))) (sH S) ?_ ?_ (sH S) 0 σ (by omega) (by show RR σ (sUp S 12 0 0 (sSd S)); rw [sUp_same]; exact hR)
    · intro τ hRt
      refine sg_X9_night_19 _ _ _ (pk_le (sH S) (sH S) (fun _ => ?_) (fun c => by omega) hRt.1.1 rfl)
      exact hQ _ (RR_aw hRt h12 _)
    · intro i τ hi hRt ih
      refine sg_X9_night_19 _ _ _ (pk_le (sH S) i (fun c => by omega) (fun c => ?_) hRt.1.1 rfl)
      have hsd := sdq_lt hW i
      refine r_draw (S := sUp S 12 0 0 (sdq S i)) hRt.2.1.2.2 hsd ⟨_, rfl, ?_⟩
      have e6 : (6 : Int32) * nI i + 2 + nI q = nI (6 * i + 2 + q) := by rw [show (6 : Int32) = nI 6 from rfl, pk_mul, show (2 : Int32) = nI 2 from rfl, nI_add, nI_add]
      have hod := (hW.1.2.2.2.1 i hi).2.2 q hq
      have hRn := RR_sd hRt h12 (drw (sdq S i))
      rw [sUp_two] at hRn
      show vp_in _ 108 ∧ nh_E _ _ _ _ (nh_wa τ 1 25 (nI (drw (sdq S i)))) Q
      have hrd : (nh_wa τ 1 25 (nI (drw (sdq S i)))).2.1 3 (6 * i + 2 + q) = nI (sOd S q i) := (hRn.1.2.2.2.2 i hi).2.2 q hq
      rw [e6, nI_1, pk_cl (6 * i + 2 + q) rfl (by omega)]
      refine ⟨pk_in (6 * i + 2 + q) 108 (by omega), ?_⟩
      have e1 : (sUp S 12 0 0 (sdq S i)) 12 0 0 = sdq S i := rfl
      have hd := drw_lt (sdq S i)
      rw [show (nh_wa τ 1 25 (nI (drw (sSd (sUp S 12 0 0 (sdq S i)))))).2.1 3 (6 * i + 2 + q) = nI (sOd S q i) from hrd, show sSd (sUp S 12 0 0 (sdq S i)) = sdq S i from rfl, bs_mk (ngt S q) (by omega) (by
        rw [nI_leI (by omega) (by omega)]
        unfold ngt
        rw [decide_eq_true_eq]
        show _ ↔ drw (sdq S i) / 65536 % 100 < _
        omega)]
      exact ih _ hRn
  · rw [e] at hQ
    exact ⟨fun ⟨h, hh, q⟩ => absurd q (hx h (by omega)), fun _ => hQ _ hR⟩
/-- what spare PARTS cost -/
def csm (S : SP) (m n : Nat) : Nat := fb_sm (fun p => if m.testBit p = true then sCs S p else 0) n
theorem csm_le {S : SP} (hW : WF S) (m : Nat) : ∀ n, n ≤ sP S → csm S m n ≤ n * 99 := fun n hn => fb_sm_bound (fun k hk => by
  have := (hW.2.2.2.1.1 k (by omega)).1
  split <;> omega)
/-- a PART with its spare -/
def spr (o s : Option Nat) : Option Nat := match s with
  | none => o
  | some b => match o with
    | none => some b
    | some a => if a ≤ b then some a else some b
def cmS (cm : Nat → Option Nat) (s : Option Nat) (m p : Nat) : Option Nat := if m.testBit p = true then spr (cm p) s else cm p
def spE (S : SP) (cm : Nat → Option Nat) (s : Option Nat) (m : Nat) : Nat := (stO S (cmS cm s m) (full S)).getD 500
def spB (S : SP) (cm : Nat → Option Nat) (s : Option Nat) (c : Nat) : Nat → Option (Nat × Nat × Nat)
  | 0 => none
  | m + 1 => if csm S m (sP S) ≤ c then (match spB S cm s c m with
      | none => some (m, spE S cm s m, csm S m (sP S))
      | some b => if spE S cm s m < b.2.1 ∨ spE S cm s m = b.2.1 ∧ csm S m (sP S) < b.2.2 then some (m, spE S cm s m, csm S m (sP S)) else some b) else spB S cm s c m
noncomputable def aSpares (S : SP) (x y z w : Int32) : Int32 := match ix x (sH S), ix y (sH S) with
  | some fire, some f => (match ix z 1000, ix w 2 with
    | some c, some k => (match spB S (cmF S f (sAw S) fire) (arr S (fwS S f (sAw S)) fire (sSt S)) c (2 ^ sP S) with
      | none => 0
      | some b => if k = 0 then nI b.1 else nI b.2.1)
    | _, _ => -1000002)
  | _, _ => -1000001
theorem spB_0 (S : SP) (cm : Nat → Option Nat) (s : Option Nat) (c : Nat) : ∀ n, ∃ b, spB S cm s c (n + 1) = some b
  | 0 => by
    rw [spB, if_pos (show csm S 0 (sP S) ≤ c by
      have : csm S 0 (sP S) = 0 := by
        have h := fb_sm_const 0 (sP S)
        rw [Nat.mul_zero] at h
        refine (fb_sm_cong (fun k _ => ?_)).trans h
        show (if (0 : Nat).testBit k = true then sCs S k else 0) = 0
        rw [Nat.zero_testBit]
        rfl
      omega)]
    exact ⟨_, rfl⟩
  | n + 1 => by
    obtain ⟨b, hb⟩ := spB_0 S cm s c n
    rw [spB]
    split
    · rw [hb]
      dsimp only
      split
      · exact ⟨_, rfl⟩
      · exact ⟨_, rfl⟩
    · exact ⟨b, hb⟩
set_option maxHeartbeats 2000000 in
theorem r_spares {S : SP} {σ : nh_S} (hR : RR σ S) (hW : WF S) (x y z w : Int32) {Q : Option Value → nh_S → Prop} (hQ : ∀ τ, RR τ S → Q (some (.int (aSpares S x y z w))) τ) : nh_E kX9_spares 0 [some (.ref 0), some (.int x), some (.int y), some (.int z), some (.int w), none, none, none, none, none, none, none] [] σ Q := by
  have h9 := hW.1.1
  have h12 := hW.1.2.1
  have hpw : 2 ^ sP S ≤ 2 ^ 12 := pw_le h12
  have hpp := Nat.two_pow_pos (sP S)
  unfold aSpares at hQ
  refine sg_X9_spares_0 x y z w ?_
  rw [hR.1.1, ix_ref (by omega), ix_ref (by omega), show (999 : Int32) = nI 999 from rfl, ix_lit (by omega), show (1 : Int32) = nI 1 from rfl, ix_lit (by omega)]
  rcases ix_cases x (n := sH S) (by omega) with ⟨fire, hfi, rfl, e⟩ | ⟨e, hx⟩
  · refine ⟨fun c => absurd ⟨fire, hfi, rfl⟩ c, fun _ => ?_⟩
    rcases ix_cases y (n := sH S) (by omega) with ⟨f, hf, rfl, e2⟩ | ⟨e2, hy⟩
    · refine ⟨fun _ => ?_, fun c => absurd ⟨f, hf, rfl⟩ c⟩
      rcases ix_cases z (n := 1000) (by omega) with ⟨c, hc, rfl, e3⟩ | ⟨e3, hz⟩
      · refine ⟨fun q => absurd ⟨c, by omega, rfl⟩ q, fun _ => ?_⟩
        rcases ix_cases w (n := 2) (by omega) with ⟨k, hk, rfl, e4⟩ | ⟨e4, hw⟩
        · rw [e, e2, e3, e4] at hQ
          dsimp only at hQ
          refine ⟨fun _ => ?_, fun q => absurd ⟨k, by omega, rfl⟩ q⟩
          rw [hR.2.1.2.1]
          refine r_burn hR hW hfi hf (aw_lt hW) (fun τ t1 _ t3 t4 => ⟨rfl, ?_⟩)
          have hRt := hR.pr h12 t1
          have hst : sSt S < sH S := by rcases hW.2.2.2.1.2 with q | q <;> omega
          have hcb : ∀ p v, p < sP S → cmF S f (sAw S) fire p = some v → v ≤ 1000000 := fun p v hp hv => arr_bd hW t4 hfi (hW.2.1.1 p hp).1 hv
          have hsb : ∀ v, arr S (fwS S f (sAw S)) fire (sSt S) = some v → v ≤ 1000000 := fun v hv => arr_bd hW t4 hfi hst hv
          dsimp only
          rw [hRt.2.2.2.1.2.1, pk_cl (sSt S) rfl (by omega), t3 _ hst]
          refine ⟨pk_in (sSt S) 9 (by omega), ?_⟩
          generalize hsp : arr S (fwS S f (sAw S)) fire (sSt S) = s at *
          have hA : ∀ p, cmF S f (sAw S) fire p = arr S (fwS S f (sAw S)) fire (sKp S p) := fun _ => rfl
          generalize hcm : cmF S f (sAw S) fire = cm at *
          have hcbS : ∀ m p v, p < sP S → cmS cm s m p = some v → v ≤ 1000000 := by
            intro m p v hp hv
            unfold cmS spr at hv
            split at hv
            · cases s with
              | none => exact hcb p v hp hv
              | some b =>
                dsimp only at hv
                cases hq : cm p with
                | none => rw [hq] at hv; cases hv; exact hsb _ rfl
                | some a =>
                  rw [hq] at hv
                  dsimp only at hv
                  split at hv
                  · cases hv; exact hcb p _ hp hq
                  · cases hv; exact hsb _ rfl
            · exact hcb p v hp hv
          have hEb : ∀ m, spE S cm s m ≤ 1000720 := by
            intro m
            unfold spE
            cases hs : stO S (cmS cm s m) (full S) with
            | none => simp
            | some v => exact stO_bd (m := full S) hW (hcbS m) v hs
          -- one SET
          have one : ∀ m, m < 2 ^ sP S → ∀ τ : nh_S, RR τ S → (∀ h, h < sH S → τ.2.1 16 h = ot (arr S (fwS S f (sAw S)) fire h)) → (∀ υ : nh_S, RR υ S → (∀ h, h < sH S → υ.2.1 16 h = ot (arr S (fwS S f (sAw S)) fire h)) → nh_E kX9_spares 81 [some (.ref 0), none, none, some (.int (nI c)), some (.int (nI k)), some (.int (ot s)), some (.int (match spB S cm s c (m + 1) with | none => -1 | some b => nI b.1)), some (.int (match spB S cm s c (m + 1) with | none => 0 | some b => nI b.2.1)), some (.int (match spB S cm s c (m + 1) with | none => 0 | some b => nI b.2.2)), some (.int (nI (m + 1))), none, none] [] υ Q) → (∀ b, spB S cm s c m = some b → b.1 < 2 ^ 12 ∧ b.2.1 ≤ 1000720 ∧ b.2.2 ≤ 1188) → nh_E kX9_spares 81 [some (.ref 0), none, none, some (.int (nI c)), some (.int (nI k)), some (.int (ot s)), some (.int (match spB S cm s c m with | none => -1 | some b => nI b.1)), some (.int (match spB S cm s c m with | none => 0 | some b => nI b.2.1)), some (.int (match spB S cm s c m with | none => 0 | some b => nI b.2.2)), some (.int (nI m)), none, none] [] τ Q := by
            intro m hm τ hRt h16 hK hbb
            refine sg_X9_spares_81 _ _ _ _ _ _ _ ?_
            rw [hRt.1.2.1, bs_full (by omega)]
            refine pk_lt (2 ^ sP S - 1) m (fun q => by omega) (fun q => ?_)
            refine r_comeAll hRt hW h16 (fun υ u1 u2 => ⟨rfl, ?_⟩)
            have u2 : ∀ p, p < sP S → υ.2.1 18 p = ot (cm p) := fun p hp => by rw [u2 p hp, ← hA]
            refine nh_loop (α := nh_S) (fun i ρ => nh_E kX9_spares 100 [some (.ref 0), none, none, some (.int (nI c)), some (.int (nI k)), some (.int (ot s)), some (.int (match spB S cm s c m with | none => -1 | some b => nI b.1)), some (.int (match spB S cm s c m with | none => 0 | some b => nI b.2.1)), some (.int (match spB S cm s c m with | none => 0 | some b => nI b.2.2)), some (.int (nI m)), some (.int (nI (csm S m i))), some (.int (nI i))] [] ρ Q) (fun n ρ => frA [18] τ ρ ∧ (∀ p, p < n → ρ.2.1 18 p = ot (cmS cm s m p)) ∧ ∀ p, n ≤ p → p < sP S → ρ.2.1 18 p = ot (cm p)) (sP S) ?_ ?_ (sP S) 0 υ (by omega) ⟨u1, fun p hp => by omega, fun p _ hp => u2 p hp⟩
            · rintro ρ ⟨r1, r2, -⟩
              have hRr := hRt.pr h12 (r1.pr (by decide))
              have hcl := csm_le hW m (sP S) (Nat.le_refl _)
              have v16 : ∀ h, h < sH S → ρ.2.1 16 h = ot (arr S (fwS S f (sAw S)) fire h) := fun h hh => by rw [r1.2 16 (by decide)]; exact h16 h hh
              rw [spB] at hK
              refine sg_X9_spares_100 _ _ _ _ _ _ _ _ _ (pk_le (sP S) (sP S) (fun _ => ?_) (fun q => by omega) hRr.1.2.1 rfl)
              rw [nI_1]
              refine pk_lt c (csm S m (sP S)) (fun c5 => ?_) (fun c5 => ?_)
              · rw [if_neg (by omega)] at hK
                exact hK ρ hRr v16
              · rw [if_pos c5] at hK
                rw [hRr.1.2.1, bs_full (by omega)]
                refine r_putIn (m := full S) (cm := cmS cm s m) hRr hW (by have := full_lt hW; omega) r2 (hcbS m) (full_clo hW) (fun ξ x1 _ => ⟨_, rfl, ?_⟩)
                have hRx := hRr.pr h12 (x1.pr (by decide) (by decide))
                have w16 : ∀ h, h < sH S → ξ.2.1 16 h = ot (arr S (fwS S f (sAw S)) fire h) := fun h hh => by rw [x1.1 16 (by decide)]; exact v16 h hh
                have hK := hK ξ hRx w16
                have heb := hEb m
                dsimp only
                rw [ot_held (fun v hv => by have := stO_bd (m := full S) hW (hcbS m) v hv; omega)]
                rw [show nI ((stO S (cmS cm s m) (full S)).getD 500) = nI (spE S cm s m) from rfl]
                cases hb : spB S cm s c m with
                | none =>
                  rw [hb] at hK
                  exact ⟨fun _ => hK, fun q => absurd (by decide) q⟩
                | some b =>
                  obtain ⟨b1, b2, b3⟩ := hbb b hb
                  rw [hb] at hK
                  dsimp only at hK ⊢
                  refine ⟨fun q => absurd q (nI_pos (by omega)), fun _ => ?_⟩
                  refine pk_lt (spE S cm s m) b.2.1 (fun c6 => ?_) (fun c6 => ?_)
                  · rw [if_pos (Or.inl c6)] at hK
                    exact hK
                  · refine And.symm (pk_eq (spE S cm s m) b.2.1 (fun c7 => ?_) (fun c7 => ?_))
                    · refine pk_le b.2.2 (csm S m (sP S)) (fun c8 => ?_) (fun c8 => ?_)
                      · rw [if_neg (by omega)] at hK
                        exact hK
                      · rw [if_pos (Or.inr ⟨c7, c8⟩)] at hK
                        exact hK
                    · rw [if_neg (by omega)] at hK
                      exact hK
            · rintro i ρ hi ⟨r1, r2, r3⟩ ih
              have hRr := hRt.pr h12 (r1.pr (by decide))
              have e1 : csm S m (i + 1) = csm S m i + (if m.testBit i = true then sCs S i else 0) := fb_sm_succ _ _
              rw [e1] at ih
              refine sg_X9_spares_100 _ _ _ _ _ _ _ _ _ (pk_le (sP S) i (fun q => by omega) (fun q => ?_) hRr.1.2.1 rfl)
              have hh : nh_hs (nI m) (nI i) ↔ m.testBit i = true := bs_hs (by omega) (by omega)
              rw [pk_cl i rfl (by omega), nI_1, hRr.2.2.2.1.1 i hi, nI_add, r3 i (Nat.le_refl i) hi]
              refine ⟨fun c5 => ?_, fun c5 => ⟨pk_in i 12 (by omega), ?_⟩⟩
              · have nb : ¬ m.testBit i = true := fun q => c5 (hh.mpr q)
                rw [if_neg nb] at ih
                refine ih ρ ⟨r1, fun p hp => ?_, fun p hp hp2 => r3 p (by omega) hp2⟩
                rcases (show p < i ∨ p = i by omega) with q | rfl
                · exact r2 p q
                · rw [r3 p (Nat.le_refl p) hi]
                  unfold cmS
                  rw [if_neg nb]
              · have yb := hh.mp c5
                rw [if_pos yb] at ih
                refine ih _ ⟨r1.wa _ _ (by decide), fun p hp => ?_, fun p hp hp2 => ?_⟩
                · rw [bs_get]
                  by_cases e5 : p = i
                  · subst e5
                    rw [if_pos ⟨rfl, rfl⟩]
                    unfold cmS spr
                    rw [if_pos yb]
                    cases hs : s with
                    | none => rw [if_pos ot_neg]
                    | some b =>
                      have hbb2 := hsb b hs
                      rw [if_neg (ot_nn (by omega))]
                      dsimp only
                      cases hq : cm p with
                      | none => rw [if_pos ot_neg]
                      | some a =>
                        have ha := hcb p a hi hq
                        rw [if_neg (ot_nn (by omega)), ot_some, ot_some]
                        dsimp only
                        by_cases e6 : a ≤ b
                        · rw [if_pos (by rw [nI_leI (by omega) (by omega)]; exact e6), if_pos e6]; rfl
                        · rw [if_neg (by rw [nI_leI (by omega) (by omega)]; exact e6), if_neg e6]; rfl
                  · rw [if_neg (fun q => e5 q.2)]
                    exact r2 p (by omega)
                · rw [bs_get, if_neg (by omega)]
                  exact r3 p (by omega) hp2
          refine nh_loop (α := nh_S) (fun m τ => nh_E kX9_spares 81 [some (.ref 0), none, none, some (.int (nI c)), some (.int (nI k)), some (.int (ot s)), some (.int (match spB S cm s c m with | none => -1 | some b => nI b.1)), some (.int (match spB S cm s c m with | none => 0 | some b => nI b.2.1)), some (.int (match spB S cm s c m with | none => 0 | some b => nI b.2.2)), some (.int (nI m)), none, none] [] τ Q) (fun m τ => RR τ S ∧ (∀ h, h < sH S → τ.2.1 16 h = ot (arr S (fwS S f (sAw S)) fire h)) ∧ (∀ b, spB S cm s c m = some b → b.1 < m ∧ b.2.1 ≤ 1000720 ∧ b.2.2 ≤ 1188)) (2 ^ sP S) ?_ ?_ (2 ^ sP S) 0 τ (by omega) ⟨hRt, t3, fun b hb => by cases hb⟩
          · rintro ρ ⟨hRr, -, hbb⟩
            refine sg_X9_spares_81 _ _ _ _ _ _ _ ?_
            rw [hRr.1.2.1, bs_full (by omega)]
            refine pk_lt (2 ^ sP S - 1) (2 ^ sP S) (fun _ => ?_) (fun q => by omega)
            have h := hQ ρ hRr
            obtain ⟨b, hb⟩ := spB_0 S cm s c (2 ^ sP S - 1)
            rw [show 2 ^ sP S - 1 + 1 = 2 ^ sP S by omega] at hb
            rw [hb] at h ⊢
            dsimp only at h ⊢
            by_cases e5 : k = 0
            · rw [if_pos e5] at h
              rw [if_pos (show nI k = 0 by rw [e5]; rfl)]
              exact h
            · rw [if_neg e5] at h
              rw [if_neg (nI_ne0 (by omega) (by omega))]
              exact h
          · rintro m ρ hm ⟨hRr, r16, hbb⟩ ih
            refine one m hm ρ hRr r16 (fun υ hRu u16 => ih υ ⟨hRu, u16, fun b hb => ?_⟩) (fun b hb => by have := hbb b hb; omega)
            have hcl := csm_le hW m (sP S) (Nat.le_refl _)
            have heb := hEb m
            rw [spB] at hb
            split at hb
            · cases hq : spB S cm s c m with
              | none => rw [hq] at hb; cases hb; exact ⟨by dsimp only; omega, heb, by dsimp only; omega⟩
              | some b2 =>
                rw [hq] at hb
                dsimp only at hb
                split at hb
                · cases hb; exact ⟨by dsimp only; omega, heb, by dsimp only; omega⟩
                · cases hb; have := hbb _ hq; omega
            · have := hbb b hb; omega
        · rw [e, e2, e3, e4] at hQ
          exact ⟨fun ⟨h, hh, q⟩ => absurd q (hw h (by omega)), fun _ => hQ _ hR⟩
      · rw [e, e2, e3] at hQ
        exact ⟨fun _ => hQ _ hR, fun ⟨h, hh, q⟩ => absurd q (hz h (by omega))⟩
    · rw [e, e2] at hQ
      exact ⟨fun ⟨h, hh, q⟩ => absurd q (hy h hh), fun _ => hQ _ hR⟩
  · rw [e] at hQ
    exact ⟨fun _ => hQ _ hR, fun ⟨h, hh, q⟩ => absurd q (hx h hh)⟩
