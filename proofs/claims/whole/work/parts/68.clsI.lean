/-! THE CLASS: spares -/
/-- a PART that is not here yet when a spare comes -/
def ufl (cm : Nat → Option Nat) (s : Option Nat) (p : Nat) : Bool := match s with
  | none => false
  | some b => match cm p with
    | none => true
    | some a => decide (b < a)
def uf (S : SP) (cm : Nat → Option Nat) (s : Option Nat) : Nat := mk (ufl cm s) (sP S)
theorem uf_bit (S : SP) (cm : Nat → Option Nat) (s : Option Nat) (p : Nat) : (uf S cm s).testBit p = (decide (p < sP S) && ufl cm s p) := mk_bit _ _ _
theorem spr_no {cm : Nat → Option Nat} {s : Option Nat} {p : Nat} (h : ufl cm s p = false) : spr (cm p) s = cm p := by
  unfold ufl at h
  unfold spr
  cases s with
  | none => rfl
  | some b =>
    dsimp only at h ⊢
    cases hq : cm p with
    | none => rw [hq] at h; cases h
    | some a =>
      rw [hq] at h
      dsimp only at h ⊢
      have := of_decide_eq_false h
      rw [if_pos (by omega)]
theorem spr_yes {cm : Nat → Option Nat} {s : Option Nat} {p : Nat} (h : ufl cm s p = true) : spr (cm p) s = s := by
  unfold ufl at h
  unfold spr
  cases s with
  | none => cases h
  | some b =>
    dsimp only at h ⊢
    cases hq : cm p with
    | none => rfl
    | some a =>
      rw [hq] at h
      dsimp only at h ⊢
      have := of_decide_eq_true h
      rw [if_neg (by omega)]
theorem cmS_and {S : SP} {cm : Nat → Option Nat} {s : Option Nat} {m : Nat} (hm : m < 2 ^ sP S) : cmS cm s (m &&& uf S cm s) = cmS cm s m := by
  funext p
  unfold cmS
  rw [Nat.testBit_and, uf_bit]
  by_cases hb : m.testBit p = true
  · have hp : p < sP S := by
      apply Classical.byContradiction
      intro q
      rw [Nat.testBit_lt_two_pow (Nat.lt_of_lt_of_le hm (pw_le (by omega)))] at hb
      cases hb
    rw [if_pos hb, hb, decide_eq_true hp, Bool.true_and, Bool.true_and]
    cases hu : ufl cm s p with
    | true => rw [if_pos rfl]
    | false => rw [if_neg (by decide), spr_no hu]
  · rw [if_neg hb, if_neg (fun q => by rw [Bool.and_eq_true] at q; exact hb q.1)]
theorem spE_and {S : SP} {cm : Nat → Option Nat} {s : Option Nat} {m : Nat} (hm : m < 2 ^ sP S) : spE S cm s (m &&& uf S cm s) = spE S cm s m := by
  unfold spE
  rw [cmS_and hm]
theorem csm_and (S : SP) (m u : Nat) : csm S (m &&& u) (sP S) ≤ csm S m (sP S) := by
  unfold csm
  apply fb_sm_le
  intro k _
  rw [Nat.testBit_and]
  by_cases h : m.testBit k = true
  · rw [if_pos h]; split <;> omega
  · rw [if_neg (fun q => by rw [Bool.and_eq_true] at q; exact h q.1)]; omega
/-- the best is no worse than any -/
theorem spB_low (S : SP) (cm : Nat → Option Nat) (s : Option Nat) (c : Nat) : ∀ (n : Nat) (b : Nat × Nat × Nat), spB S cm s c n = some b → ∀ m, m < n → csm S m (sP S) ≤ c → b.2.1 < spE S cm s m ∨ (b.2.1 = spE S cm s m ∧ b.2.2 ≤ csm S m (sP S))
  | 0, b, h, m, hm, _ => by omega
  | n + 1, b, h, m, hm, hc => by
    rw [spB] at h
    by_cases e : csm S n (sP S) ≤ c
    · rw [if_pos e] at h
      cases hq : spB S cm s c n with
      | none =>
        rw [hq] at h
        cases h
        by_cases em : m = n
        · subst em; exact Or.inr ⟨rfl, Nat.le_refl _⟩
        · exfalso
          have h0 : 0 < n := by omega
          obtain ⟨b2, hb2⟩ := spB_0 S cm s c (n - 1)
          rw [show n - 1 + 1 = n by omega, hq] at hb2
          cases hb2
      | some b2 =>
        rw [hq] at h
        dsimp only at h
        have ih := spB_low S cm s c n b2 hq
        by_cases ei : spE S cm s n < b2.2.1 ∨ spE S cm s n = b2.2.1 ∧ csm S n (sP S) < b2.2.2
        · rw [if_pos ei] at h
          cases h
          by_cases em : m = n
          · subst em; exact Or.inr ⟨rfl, Nat.le_refl _⟩
          · have := ih m (by omega) hc
            dsimp only
            omega
        · rw [if_neg ei] at h
          cases h
          by_cases em : m = n
          · subst em
            omega
          · exact ih m (by omega) hc
    · rw [if_neg e] at h
      by_cases em : m = n
      · subst em; exact absurd hc e
      · exact spB_low S cm s c n b h m (by omega) hc
/-- what the best is -/
theorem spB_is (S : SP) (cm : Nat → Option Nat) (s : Option Nat) (c : Nat) : ∀ (n : Nat) (b : Nat × Nat × Nat), spB S cm s c n = some b → b.1 < n ∧ b.2.1 = spE S cm s b.1 ∧ b.2.2 = csm S b.1 (sP S)
  | 0, b, h => by cases h
  | n + 1, b, h => by
    rw [spB] at h
    split at h
    · cases hq : spB S cm s c n with
      | none => rw [hq] at h; cases h; exact ⟨by dsimp only; omega, rfl, rfl⟩
      | some b2 =>
        rw [hq] at h
        dsimp only at h
        split at h
        · cases h; exact ⟨by dsimp only; omega, rfl, rfl⟩
        · cases h
          have := spB_is S cm s c n _ hq
          exact ⟨by omega, this.2⟩
    · have := spB_is S cm s c n b h
      exact ⟨by omega, this.2⟩
/-- a SET with a spare of no use changes nothing -/
theorem spB_skip {S : SP} {cm : Nat → Option Nat} {s : Option Nat} {c m : Nat} (hm : m < 2 ^ sP S) (hn : m &&& uf S cm s ≠ m) : spB S cm s c (m + 1) = spB S cm s c m := by
  have hlt : m &&& uf S cm s < m := by
    have := Nat.and_le_left (n := m) (m := uf S cm s)
    omega
  rw [spB]
  by_cases e : csm S m (sP S) ≤ c
  · rw [if_pos e]
    obtain ⟨b, hb⟩ := spB_0 S cm s c (m - 1)
    rw [show m - 1 + 1 = m by omega] at hb
    rw [hb]
    have hl := spB_low S cm s c m b hb (m &&& uf S cm s) hlt (Nat.le_trans (csm_and S m _) e)
    rw [spE_and hm] at hl
    have := csm_and S m (uf S cm s)
    dsimp only
    rw [if_neg (by omega)]
  · rw [if_neg e]
theorem spB_more {S : SP} {cm : Nat → Option Nat} {s : Option Nat} {c : Nat} : ∀ d, uf S cm s + 1 + d ≤ 2 ^ sP S → spB S cm s c (uf S cm s + 1 + d) = spB S cm s c (uf S cm s + 1)
  | 0, _ => rfl
  | d + 1, h => by
    rw [← spB_more d (by omega), show uf S cm s + 1 + (d + 1) = (uf S cm s + 1 + d) + 1 by omega]
    refine spB_skip (by omega) (fun q => ?_)
    have := Nat.and_le_right (n := uf S cm s + 1 + d) (m := uf S cm s)
    omega
theorem sub_and {m u : Nat} : (∀ i, m.testBit i = true → u.testBit i = true) ↔ m &&& u = m := by
  constructor
  · intro h
    apply Nat.eq_of_testBit_eq
    intro i
    rw [Nat.testBit_and]
    cases hb : m.testBit i with
    | false => rfl
    | true => rw [h i hb]; rfl
  · intro h i hi
    rw [← h, Nat.testBit_and, Bool.and_eq_true] at hi
    exact hi.2
theorem c_costOf {S : SP} {σ : nh_S} (hC : CR σ S) (hW : WF S) {m : Nat} (hm : m < 2 ^ 31) {Q : Option Value → nh_S → Prop} (hQ : Q (some (.int (nI (csm S m (sP S))))) σ) : nh_E kX8_costOf 0 [some (.ref 0), some (.int (nI m)), none, none] [] σ Q := by
  have h12 := hW.1.2.1
  refine sg_X8_costOf_0 _ ?_
  refine nh_loop (α := Unit) (fun i _ => nh_E kX8_costOf 4 [some (.ref 0), some (.int (nI m)), some (.int (nI (csm S m i))), some (.int (nI i))] [] σ Q) (fun _ _ => True) (sP S) ?_ ?_ (sP S) 0 () (by omega) trivial
  · intro _ _
    exact sg_X8_costOf_4 _ _ _ ⟨hC.1.1, pk_le (sP S) (sP S) (fun _ => hQ) (fun c => by omega) hC.2.1.2.1 rfl⟩
  · intro i _ hi _ ih
    have ih := ih () trivial
    have e1 : csm S m (i + 1) = csm S m i + (if m.testBit i = true then sCs S i else 0) := fb_sm_succ _ _
    rw [e1] at ih
    refine sg_X8_costOf_4 _ _ _ ⟨hC.1.1, pk_le (sP S) i (fun c => by omega) (fun c => ?_) hC.2.1.2.1 rfl⟩
    rw [pk_cl i rfl (by omega), hC.2.2.2.2.1.1 i hi, nI_1, bs_hs hm (by omega), nI_add]
    refine ⟨fun c1 => ?_, fun c1 => ⟨pk_in i 12 (by omega), ?_⟩⟩
    · rw [if_neg c1] at ih; exact ih
    · rw [if_pos c1] at ih; exact ih
theorem c_laterThan {S : SP} {σ : nh_S} (h12 : sP S ≤ 12) {cm : Nat → Option Nat} {s : Option Nat} (h18 : ∀ p, p < sP S → σ.2.1 18 p = ot (cm p)) (hb : ∀ p v, p < sP S → cm p = some v → v ≤ 1000000) (hs : ∀ v, s = some v → v ≤ 1000000) {Q : Option Value → nh_S → Prop} (hQ : Q (some (.int (nI (uf S cm s)))) σ) : nh_E kX5_laterThan 0 [some (.ref 17), some (.int (ot s)), some (.int (nI (sP S))), none, none] [] σ Q := by
  refine sg_X5_laterThan_0 isG_17 _ _ ?_
  refine nh_loop (α := Unit) (fun i _ => nh_E kX5_laterThan 5 [some (.ref 17), some (.int (ot s)), some (.int (nI (sP S))), some (.int (nI (mk (ufl cm s) i))), some (.int (nI i))] [] σ Q) (fun _ _ => True) (sP S) ?_ ?_ (sP S) 0 () (by omega) trivial
  · intro _ _
    exact sg_X5_laterThan_5 isG_17 _ _ _ _ (pk_le (sP S) (sP S) (fun _ => hQ) (fun c => by omega))
  · intro i _ hi _ ih
    have ih := ih () trivial
    refine sg_X5_laterThan_5 isG_17 _ _ _ _ (pk_le (sP S) i (fun c => by omega) (fun c => ?_))
    have ey : ufl cm s i = true → nI (mk (ufl cm s) i) ||| ((1 : Int32) <<< (nI i &&& 31)) = nI (mk (ufl cm s) (i + 1)) := fun h => bs_mkT _ (by omega) h
    have en : ufl cm s i = false → mk (ufl cm s) (i + 1) = mk (ufl cm s) i := fun h => bs_mkF _ h
    rw [nI_1]
    cases hss : s with
    | none =>
      rw [hss] at ih en
      rw [en rfl] at ih
      exact ⟨fun _ => ih, fun q => absurd rfl q⟩
    | some b =>
      have hb2 := hs b hss
      rw [hss] at ih en ey
      refine ⟨fun q => absurd q (ot_m1 (by omega)), fun _ => ⟨pk_in i 12 (by omega), ?_⟩⟩
      rw [pk_cl i rfl (by omega), show (17 + 1 : Nat) = 18 from rfl, h18 i hi]
      cases hc : cm i with
      | none =>
        refine ⟨fun _ => ?_, fun q => absurd rfl q⟩
        rw [ey (by unfold ufl; rw [hc])]
        exact ih
      | some a =>
        have ha := hb i a hi hc
        refine ⟨fun q => absurd q (ot_m1 (by omega)), fun _ => ?_⟩
        rw [ot_some, ot_some]
        refine pk_le a b (fun c5 => ?_) (fun c5 => ?_)
        · rw [en (by unfold ufl; rw [hc]; exact decide_eq_false (by omega))] at ih
          exact ih
        · rw [ey (by unfold ufl; rw [hc]; exact decide_eq_true c5)]
          exact ih
/-- with spares of a SET, all of use -/
theorem c_standsWith {S : SP} {σ : nh_S} (hC : CR σ S) (hW : WF S) {cm : Nat → Option Nat} {s : Option Nat} (h18 : ∀ p, p < sP S → σ.2.1 18 p = ot (cm p)) {m : Nat} (hm : m < 2 ^ sP S) (hu : m &&& uf S cm s = m) (hcb : ∀ p v, p < sP S → cmS cm s m p = some v → v ≤ 1000000) {Q : Option Value → nh_S → Prop} (hQ : ∀ τ, CR τ S → (∀ p, p < sP S → τ.2.1 18 p = ot (cm p)) → spE S cm s m ≤ 1000720 → Q (some (.int (nI (spE S cm s m)))) τ) : nh_E kX8_standsWith 0 [some (.ref 0), some (.int (nI m)), some (.int (ot s)), none] [] σ Q := by
  have h12 := hW.1.2.1
  have hpw : 2 ^ sP S ≤ 2 ^ 12 := pw_le h12
  refine sg_X8_standsWith_0 _ _ ?_
  refine nh_loop (α := nh_S) (fun i τ => nh_E kX8_standsWith 2 [some (.ref 0), some (.int (nI m)), some (.int (ot s)), some (.int (nI i))] [] τ Q) (fun n τ => frC [22] σ τ ∧ ∀ p, p < n → τ.2.1 22 p = ot (cmS cm s m p)) (sP S) ?_ ?_ (sP S) 0 σ (by omega) ⟨frC.rf _ _, fun p hp => by omega⟩
  · rintro τ ⟨t1, t2⟩
    have hCt := hC.pr hW (t1.pr (by intro k hk; simp at hk; unfold sc; omega))
    refine sg_X8_standsWith_2 _ _ _ ⟨hCt.1.1, pk_le (sP S) (sP S) (fun _ => ?_) (fun c => by omega) hCt.2.1.2.1 rfl⟩
    rw [hCt.2.1.2.1, bs_full (by omega)]
    refine c_raiseAt hCt hW isG_21 (m := full S) (cm := cmS cm s m) (by have := full_lt hW; omega) t2 hcb (full_clo hW) (fun ξ x1 x2 x3 _ _ => ⟨_, rfl, ?_⟩)
    have hst : ∀ v, stO S (cmS cm s m) (full S) = some v → v ≤ 1000720 := fun v hv => stO_bd (m := full S) hW hcb v hv
    dsimp only
    rw [ot_counted (fun v hv => by have := hst v hv; omega)]
    refine hQ ξ x2 (fun p hp => by rw [(x3.1 18 (by decide)).2, (t1.1 18 (by decide)).2]; exact h18 p hp) ?_
    unfold spE
    cases hs : stO S (cmS cm s m) (full S) with
    | none => simp
    | some v => exact hst v hs
  · rintro i τ hi ⟨t1, t2⟩ ih
    have hCt := hC.pr hW (t1.pr (by intro k hk; simp at hk; unfold sc; omega))
    have hh : nh_hs (nI m) (nI i) ↔ m.testBit i = true := bs_hs (by omega) (by omega)
    refine sg_X8_standsWith_2 _ _ _ ⟨hCt.1.1, pk_le (sP S) i (fun c => by omega) (fun c => ⟨fun _ => pk_in i 12 (by omega), pk_in i 12 (by omega), ?_⟩) hCt.2.1.2.1 rfl⟩
    rw [pk_cl i rfl (by omega), nI_1, (t1.1 18 (by decide)).2, h18 i hi]
    refine ih _ ⟨t1.wa _ _ (by decide), fun p hp => ?_⟩
    rw [bs_get]
    by_cases e5 : p = i
    · subst e5
      rw [if_pos ⟨rfl, rfl⟩]
      unfold cmS
      by_cases hb : m.testBit p = true
      · have hup := sub_and.mpr hu p hb
        rw [uf_bit, Bool.and_eq_true] at hup
        rw [if_pos (hh.mpr hb), if_pos hb, spr_yes hup.2]
      · rw [if_neg (fun q => hb (hh.mp q)), if_neg hb]
    · rw [if_neg (fun q => e5 q.2)]
      exact t2 p (by omega)
set_option maxHeartbeats 1000000 in
theorem c_spares {S : SP} {σ : nh_S} (hC : CR σ S) (hW : WF S) (x y z w : Int32) {Q : Option Value → nh_S → Prop} (hQ : ∀ τ, CR τ S → Q (some (.int (aSpares S x y z w))) τ) : nh_E kX8_spares 0 [some (.ref 0), some (.int x), some (.int y), some (.int z), some (.int w), none, none, none, none, none, none] [] σ Q := by
  have h9 := hW.1.1
  have h12 := hW.1.2.1
  have hpw : 2 ^ sP S ≤ 2 ^ 12 := pw_le h12
  have hpp := Nat.two_pow_pos (sP S)
  unfold aSpares at hQ
  refine sg_X8_spares_0 x y z w ⟨hC.1.1, ?_⟩
  rw [hC.2.1.1, ix_cls (by omega), ix_cls (by omega)]
  rcases ix_cases x (n := sH S) (by omega) with ⟨fire, hfi, rfl, e⟩ | ⟨e, hx⟩
  · refine ⟨fun c => absurd ⟨fire, hfi, rfl⟩ c, fun _ => ?_⟩
    rcases ix_cases y (n := sH S) (by omega) with ⟨f, hf, rfl, e2⟩ | ⟨e2, hy⟩
    · refine ⟨fun _ => ?_, fun c => absurd ⟨f, hf, rfl⟩ c⟩
      rcases ix_cases z (n := 1000) (by omega) with ⟨c, hc, rfl, e3⟩ | ⟨e3, hz⟩
      · refine ⟨fun z => absurd z (nI_pos (by omega)), fun _ => ⟨fun z => absurd z (by rw [show (999 : Int32) = nI 999 from rfl, nI_ltI (by omega) (by omega)]; omega), fun _ => ?_⟩⟩
        rcases ix_cases w (n := 2) (by omega) with ⟨k, hk, rfl, e4⟩ | ⟨e4, hw⟩
        · rw [e, e2, e3, e4] at hQ
          dsimp only at hQ
          refine ⟨fun z => absurd z (nI_pos (by omega)), fun _ => ⟨fun _ => ?_, fun z => absurd (by rw [show (1 : Int32) = nI 1 from rfl]; exact nI_le (by omega) (by omega)) z⟩⟩
          have hst : sSt S < sH S := by rcases hW.2.2.2.1.2 with q | q <;> omega
          refine c_wakeAll hC hW hf (fun τ t1 t2 t3 t4 => ⟨rfl, t2.1.1, ?_⟩)
          refine c_gatherAt t2 hW isG_17 t3 t4 hfi (fun υ u1 u2 u3 u4 u5 u6 => ⟨rfl, u2.1.1, ?_⟩)
          rw [u2.2.2.2.2.1.2.1]
          refine c_arrival u2.1.1 u2.2.1 hW.1 u3 t4 hst hfi ⟨_, rfl, u2.1.1, ?_⟩
          have hsb : ∀ v, arr S (fwS S f (sAw S)) fire (sSt S) = some v → v ≤ 1000000 := fun v hv => arr_bd hW t4 hfi hst hv
          have hcb : ∀ p v, p < sP S → cmF S f (sAw S) fire p = some v → v ≤ 1000000 := u6
          have u5 : ∀ p, p < sP S → υ.2.1 18 p = ot (cmF S f (sAw S) fire p) := u5
          clear u6 u3 u4 t3 t4
          generalize hsp : arr S (fwS S f (sAw S)) fire (sSt S) = s at *
          generalize hcm : cmF S f (sAw S) fire = cm at *
          have hcbS : ∀ m p v, p < sP S → cmS cm s m p = some v → v ≤ 1000000 := by
            intro m p v hp hv
            unfold cmS spr at hv
            split at hv
            · cases s with
              | none => exact hcb p v hp hv
              | some b =>
                dsimp only at hv
                cases hq : cm p with
                | none => rw [hq] at hv; cases hv; exact hsb _ rfl
                | some a =>
                  rw [hq] at hv
                  dsimp only at hv
                  split at hv
                  · cases hv; exact hcb p _ hp hq
                  · cases hv; exact hsb _ rfl
            · exact hcb p v hp hv
          have hul : uf S cm s < 2 ^ sP S := mk_lt _ _
          rw [u2.2.1.2.1]
          refine c_laterThan h12 u5 hcb hsb ⟨_, rfl, ?_⟩
          refine c_standsWith u2 hW u5 (m := 0) hpp (Nat.zero_and _) (hcbS 0) (fun ρ r1 r2 r3 => ⟨_, rfl, ?_⟩)
          have loop : ∀ (d m : Nat) (τ : nh_S) (b : Nat × Nat × Nat), m + d = uf S cm s + 1 → 1 ≤ m → CR τ S → (∀ p, p < sP S → τ.2.1 18 p = ot (cm p)) → spB S cm s c m = some b → b.2.1 ≤ 1000720 → nh_E kX8_spares 123 [some (.ref 0), none, none, some (.int (nI c)), some (.int (nI k)), some (.int (ot s)), some (.int (nI (uf S cm s))), some (.int (nI b.1)), some (.int (nI b.2.1)), some (.int (nI m)), none] [] τ Q := by
            intro d
            induction d with
            | zero =>
              intro m τ b hd h1 hCt h18 hb hbb
              have em : m = uf S cm s + 1 := by omega
              refine sg_X8_spares_123 _ _ _ _ _ _ _ (pk_lt (uf S cm s) m (fun _ => ?_) (fun q => by omega))
              have h := hQ τ hCt
              have hmo := spB_more (S := S) (cm := cm) (s := s) (c := c) (2 ^ sP S - (uf S cm s + 1)) (by omega)
              rw [show uf S cm s + 1 + (2 ^ sP S - (uf S cm s + 1)) = 2 ^ sP S by omega, ← em, hb] at hmo
              rw [hmo] at h
              dsimp only at h ⊢
              by_cases e5 : k = 0
              · rw [if_pos e5] at h
                rw [if_pos (show nI k = 0 by rw [e5]; rfl)]
                exact h
              · rw [if_neg e5] at h
                rw [if_neg (nI_ne0 (by omega) (by omega))]
                exact h
            | succ d ih =>
              intro m τ b hd h1 hCt h18 hb hbb
              obtain ⟨b1, b2, b3⟩ := spB_is S cm s c m b hb
              have hcl := csm_le hW m (sP S) (Nat.le_refl _)
              have hcl2 := csm_le hW b.1 (sP S) (Nat.le_refl _)
              refine sg_X8_spares_123 _ _ _ _ _ _ _ (pk_lt (uf S cm s) m (fun q => by omega) (fun q => ?_))
              rw [bs_sub (by omega) (by omega), sub_and, nI_1]
              refine ⟨fun c5 => ?_, fun c5 => ?_⟩
              · exact ih (m + 1) τ b (by omega) (by omega) hCt h18 (by rw [spB_skip (by omega) c5]; exact hb) hbb
              · refine c_costOf hCt hW (by omega) ⟨_, rfl, ?_⟩
                refine pk_lt c (csm S m (sP S)) (fun c6 => ?_) (fun c6 => ?_)
                · exact ih (m + 1) τ b (by omega) (by omega) hCt h18 (by rw [spB, if_neg (by omega)]; exact hb) hbb
                · refine c_standsWith hCt hW h18 (m := m) (by omega) c5 (hcbS m) (fun ξ x1 x2 x3 => ⟨_, rfl, ?_⟩)
                  have hnew : spB S cm s c (m + 1) = if spE S cm s m < b.2.1 ∨ spE S cm s m = b.2.1 ∧ csm S m (sP S) < b.2.2 then some (m, spE S cm s m, csm S m (sP S)) else some b := by
                    rw [spB, if_pos c6, hb]
                  refine pk_lt (spE S cm s m) b.2.1 (fun c7 => ?_) (fun c7 => ?_)
                  · exact ih (m + 1) ξ (m, spE S cm s m, csm S m (sP S)) (by omega) (by omega) x1 x2 (by rw [hnew, if_pos (Or.inl c7)]) x3
                  · refine And.symm (pk_eq (spE S cm s m) b.2.1 (fun c8 => ?_) (fun c8 => ?_))
                    · refine c_costOf x1 hW (by omega) ⟨_, rfl, ?_⟩
                      refine c_costOf x1 hW (m := b.1) (by omega) ⟨_, rfl, ?_⟩
                      refine pk_le (csm S b.1 (sP S)) (csm S m (sP S)) (fun c9 => ?_) (fun c9 => ?_)
                      · exact ih (m + 1) ξ b (by omega) (by omega) x1 x2 (by rw [hnew, if_neg (by omega)]) hbb
                      · exact ih (m + 1) ξ (m, spE S cm s m, csm S m (sP S)) (by omega) (by omega) x1 x2 (by rw [hnew, if_pos (Or.inr ⟨c8, by omega⟩)]) x3
                    · exact ih (m + 1) ξ b (by omega) (by omega) x1 x2 (by rw [hnew, if_neg (by omega)]) hbb
          have h0 : spB S cm s c 1 = some (0, spE S cm s 0, csm S 0 (sP S)) := by
            obtain ⟨b, hb⟩ := spB_0 S cm s c 0
            obtain ⟨b1, b2, b3⟩ := spB_is S cm s c 1 b hb
            have e0 : b.1 = 0 := by omega
            rw [e0] at b2 b3
            have hb : spB S cm s c 1 = some b := hb
            rw [hb]
            obtain ⟨a1, a2, a3⟩ := b
            dsimp only at e0 b2 b3
            rw [e0, b2, b3]
          exact loop (uf S cm s) 1 ρ (0, spE S cm s 0, csm S 0 (sP S)) (by omega) (by omega) r1 r2 h0 r3
        · rw [e, e2, e3, e4] at hQ
          refine ⟨fun _ => hQ _ hC, fun c1 => ⟨fun c2 => ?_, fun _ => hQ _ hC⟩⟩
          exfalso
          obtain ⟨h, hh, q⟩ := (ix_lit (x := w) (n := 1) (by omega)).mp ⟨c1, fun c3 => (fa_of_lt c3).2.1 c2⟩
          exact hw h (by omega) q
      · rw [e, e2, e3] at hQ
        refine ⟨fun _ => hQ _ hC, fun c1 => ⟨fun _ => hQ _ hC, fun c2 => ?_⟩⟩
        exfalso
        obtain ⟨h, hh, q⟩ := (ix_lit (x := z) (n := 999) (by omega)).mp ⟨c1, c2⟩
        exact hz h (by omega) q
    · rw [e, e2] at hQ
      exact ⟨fun c => absurd (fun ⟨h, hh, q⟩ => hy h hh q) c, fun _ => hQ _ hC⟩
  · rw [e] at hQ
    exact ⟨fun _ => hQ _ hC, fun c => absurd (fun ⟨h, hh, q⟩ => hx h hh q) c⟩
