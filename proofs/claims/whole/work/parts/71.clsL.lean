/-! THE CLASS: ladders, longest -/
theorem dif_bit {a b i : Nat} (ha : a < 2 ^ 31) : (dif a b).testBit i = (a.testBit i && !b.testBit i) := by
  unfold dif
  rw [mk_bit]
  by_cases h : i < 31
  · simp [h]
  · simp [h, bs_big ha (by omega : 31 ≤ i)]
theorem pop_fullN {u n : Nat} (hn : n ≤ 12) (hu : u < 2 ^ n) (h : n ≤ pop u) : ∀ p, p < n → u.testBit p = true := by
  unfold pop at h
  have h1 := fb_ct_split (fun i => u.testBit i) n (12 - n)
  rw [show n + (12 - n) = 12 by omega, (fb_ct_zero (p := fun k => u.testBit (n + k)) (n := 12 - n)).mpr (fun k _ => Nat.testBit_lt_two_pow (Nat.lt_of_lt_of_le hu (pw_le (by omega)))), Nat.add_zero] at h1
  have h2 := fb_ct_le (fun i => u.testBit i) n
  have h3 : fb_ct (fun i => u.testBit i) n = n := by omega
  exact fb_ct_all.mp h3
theorem pop_bd {u n : Nat} (hn : n ≤ 12) (hu : u < 2 ^ n) : pop u ≤ n := by
  unfold pop
  have h1 := fb_ct_split (fun i => u.testBit i) n (12 - n)
  rw [show n + (12 - n) = 12 by omega, (fb_ct_zero (p := fun k => u.testBit (n + k)) (n := 12 - n)).mpr (fun k _ => Nat.testBit_lt_two_pow (Nat.lt_of_lt_of_le hu (pw_le (by omega)))), Nat.add_zero] at h1
  have h2 := fb_ct_le (fun i => u.testBit i) n
  omega
/-- the ways told so far -/
def w2 (S : SP) (set u p0 V : Nat) : Nat := if V = 0 then 1 else fb_sm (fun p => if lcc S set V p = true ∧ (clr V p < u ∨ clr V p = u ∧ p < p0) then lc S set (clr V p) else 0) (sP S)
theorem w2_self {S : SP} {set u : Nat} (hu : u < 2 ^ 31) : w2 S set u 0 u = lc S set u := by
  unfold w2
  by_cases h0 : u = 0
  · rw [if_pos h0, h0, lc_0]
  · rw [if_neg h0, lc_eq S set h0 hu]
    unfold ps
    apply fb_sm_cong
    intro p _
    by_cases e : lcc S set u p = true
    · rw [if_pos ⟨e, Or.inl (clr_lt hu (lcc_bit e))⟩, if_pos e]
    · rw [if_neg (fun q => e q.1), if_neg e]
/-- all of u is told -/
theorem w2_all (S : SP) (set u V : Nat) : w2 S set u (sP S) V = w2 S set (u + 1) 0 V := by
  unfold w2
  by_cases h0 : V = 0
  · rw [if_pos h0, if_pos h0]
  · rw [if_neg h0, if_neg h0]
    apply fb_sm_cong
    intro p hp
    have hi : (lcc S set V p = true ∧ (clr V p < u ∨ clr V p = u ∧ p < sP S)) ↔ (lcc S set V p = true ∧ (clr V p < u + 1 ∨ clr V p = u + 1 ∧ p < 0)) := by
      constructor
      · rintro ⟨a, b⟩; exact ⟨a, by omega⟩
      · rintro ⟨a, b⟩; exact ⟨a, by omega⟩
    by_cases e : lcc S set V p = true ∧ (clr V p < u ∨ clr V p = u ∧ p < sP S)
    · rw [if_pos e, if_pos (hi.mp e)]
    · rw [if_neg e, if_neg (fun q => e (hi.mpr q))]
theorem w2_skip {S : SP} {set u V : Nat} (h : lc S set u = 0 ∨ ∀ p, p < sP S → lcc S set V p = true → clr V p ≠ u) : w2 S set (u + 1) 0 V = w2 S set u 0 V := by
  unfold w2
  by_cases h0 : V = 0
  · rw [if_pos h0, if_pos h0]
  · rw [if_neg h0, if_neg h0]
    apply fb_sm_cong
    intro p hp
    by_cases e : lcc S set V p = true ∧ (clr V p < u ∨ clr V p = u ∧ p < 0)
    · rw [if_pos e, if_pos ⟨e.1, by have := e.2; omega⟩]
    · rw [if_neg e]
      by_cases e2 : lcc S set V p = true ∧ (clr V p < u + 1 ∨ clr V p = u + 1 ∧ p < 0)
      · have hcu : clr V p = u := by
          have h1 := e2.2
          apply Classical.byContradiction
          intro q
          exact e ⟨e2.1, by omega⟩
        rw [if_pos e2, hcu]
        rcases h with h | h
        · exact h
        · exact absurd hcu (h p hp e2.1)
      · rw [if_neg e2]
theorem w2_step {S : SP} {set u p V : Nat} (hp : p < sP S) : w2 S set u (p + 1) V = w2 S set u p V + (if V ≠ 0 ∧ lcc S set V p = true ∧ clr V p = u then lc S set u else 0) := by
  unfold w2
  by_cases h0 : V = 0
  · rw [if_pos h0, if_pos h0, if_neg (fun q => q.1 h0)]
  · rw [if_neg h0, if_neg h0]
    have h1 := fb_sm_upd (fun q => if lcc S set V q = true ∧ (clr V q < u ∨ clr V q = u ∧ q < p) then lc S set (clr V q) else 0) (if lcc S set V p = true ∧ (clr V p < u ∨ clr V p = u ∧ p < p + 1) then lc S set (clr V p) else 0) hp
    have h2 : fb_sm (fun q => if lcc S set V q = true ∧ (clr V q < u ∨ clr V q = u ∧ q < p + 1) then lc S set (clr V q) else 0) (sP S) = fb_sm (fun k => if k = p then (if lcc S set V p = true ∧ (clr V p < u ∨ clr V p = u ∧ p < p + 1) then lc S set (clr V p) else 0) else (if lcc S set V k = true ∧ (clr V k < u ∨ clr V k = u ∧ k < p) then lc S set (clr V k) else 0)) (sP S) := by
      apply fb_sm_cong
      intro k _
      by_cases e : k = p
      · rw [if_pos e, e]
      · rw [if_neg e]
        by_cases e2 : lcc S set V k = true ∧ (clr V k < u ∨ clr V k = u ∧ k < p)
        · rw [if_pos e2, if_pos ⟨e2.1, by have := e2.2; omega⟩]
        · rw [if_neg e2, if_neg (fun q => e2 ⟨q.1, by have := q.2; omega⟩)]
    rw [h2]
    by_cases e : lcc S set V p = true ∧ clr V p = u
    · rw [if_pos ⟨e.1, by omega⟩, if_neg (fun q => by have := q.2; omega)] at h1
      rw [if_pos ⟨e.1, by omega⟩, if_pos ⟨h0, e⟩]
      rw [e.2] at h1 ⊢
      exact h1
    · rw [if_neg (show ¬ (V ≠ 0 ∧ lcc S set V p = true ∧ clr V p = u) from fun q => e q.2)]
      by_cases e3 : lcc S set V p = true ∧ clr V p < u
      · rw [if_pos ⟨e3.1, Or.inl e3.2⟩, if_pos ⟨e3.1, Or.inl e3.2⟩] at h1
        rw [if_pos ⟨e3.1, Or.inl e3.2⟩]
        omega
      · have hn1 : ¬ (lcc S set V p = true ∧ (clr V p < u ∨ clr V p = u ∧ p < p + 1)) := by
          rintro ⟨a, b⟩
          rcases b with b | b
          · exact e3 ⟨a, b⟩
          · exact e ⟨a, b.1⟩
        have hn2 : ¬ (lcc S set V p = true ∧ (clr V p < u ∨ clr V p = u ∧ p < p)) := by
          rintro ⟨a, b⟩
          rcases b with b | b
          · exact e3 ⟨a, b⟩
          · exact e ⟨a, b.1⟩
        rw [if_neg hn1, if_neg hn2] at h1
        rw [if_neg hn1]
        omega
theorem w2_one {S : SP} {set u p V : Nat} (hs : set < 4096) (hf : sFt S (pop u) < 4096) (hu : u < 4096) (hV : V < 4096) (hp : p < 12) : (V ≠ 0 ∧ lcc S set V p = true ∧ clr V p = u) ↔ (V = u ||| 2 ^ p ∧ (dif (sFt S (pop u) &&& set) u).testBit p = true) := by
  have hfs : sFt S (pop u) &&& set < 2 ^ 31 := Nat.lt_of_le_of_lt Nat.and_le_right (by omega)
  rw [dif_bit hfs, Nat.testBit_and]
  constructor
  · rintro ⟨-, h1, h2⟩
    have hb := lcc_bit h1
    have hpp := clr_pop (U := V) (by omega) hb hp
    unfold lcc at h1
    simp only [Bool.and_eq_true] at h1
    rw [h2] at hpp
    rw [show pop V - 1 = pop u by omega] at h1
    have hnu : u.testBit p = false := by
      have := clr_bit (U := V) (p := p) (i := p) (by omega)
      rw [h2] at this
      rw [this]
      simp
    refine ⟨?_, by rw [h1.2, h1.1.2, hnu]; rfl⟩
    apply Nat.eq_of_testBit_eq
    intro i
    rw [fb_bit_set]
    by_cases e : i = p
    · rw [e, hb]; simp
    · have := clr_bit (U := V) (p := p) (i := i) (by omega)
      rw [h2] at this
      rw [this]
      simp [e]
  · rintro ⟨rfl, h1⟩
    simp only [Bool.and_eq_true, Bool.not_eq_true'] at h1
    have hb : (u ||| 2 ^ p).testBit p = true := by rw [fb_bit_set]; simp
    have hc : clr (u ||| 2 ^ p) p = u := by
      apply Nat.eq_of_testBit_eq
      intro i
      rw [clr_bit (by omega), fb_bit_set]
      by_cases e : i = p
      · rw [e, h1.2]; simp
      · simp [e]
    have hpp := clr_pop (U := u ||| 2 ^ p) (by omega) hb hp
    rw [hc] at hpp
    have hn0 : u ||| 2 ^ p ≠ 0 := fun q => by rw [q, Nat.zero_testBit] at hb; exact Bool.noConfusion hb
    refine ⟨hn0, ?_, hc⟩
    unfold lcc
    rw [hb, h1.1.2, show pop (u ||| 2 ^ p) - 1 = pop u by omega, h1.1.1]
    rfl
theorem fac_le : ∀ m, m ≤ 12 → fac m < 2 ^ 31 := by decide +kernel
theorem lc_lt {S : SP} (h12 : sP S ≤ 12) (set : Nat) {U : Nat} (hU : U < 4096) : lc S set U < 2 ^ 31 := Nat.lt_of_le_of_lt (lc_le h12 set (U + 1) U (by omega) hU) (fac_le _ (pop_le U))
set_option maxHeartbeats 1000000 in
theorem c_countWays {S : SP} {σ : nh_S} (hC : CR σ S) (hW : WF S) {set : Nat} (hs : set < 2 ^ sP S) {Q : Option Value → nh_S → Prop} (hQ : ∀ τ, CR τ S → (∀ V, V < 2 ^ sP S → τ.2.1 32 V = nI (lc S set V)) → Q none τ) : nh_E kX8_countWays 0 [some (.ref 0), some (.int (nI set)), none, none, none, none] [] σ Q := by
  have h12 := hW.1.2.1
  have hpw : 2 ^ sP S ≤ 2 ^ 12 := pw_le h12
  have hpp := Nat.two_pow_pos (sP S)
  refine sg_X8_countWays_0 _ ?_
  refine c_fill (a0 := 32) (n0 := 4096) rfl (by omega) _ (fun ρ r1 r2 r3 r4 => ⟨rfl, ?_⟩)
  have hfr : frC [32] σ (nh_wa ρ 32 0 1) := ⟨fun k hk => by
    simp at hk
    exact ⟨by show ρ.1 k = _; rw [r1], by rw [wa_ne _ _ _ hk, r3 k hk]⟩, r2⟩
  have hCf : ∀ τ, frC [32] σ τ → CR τ S := fun τ h => hC.pr hW (h.pr (by intro k hk; simp at hk; unfold sc; omega))
  refine nh_loop (α := nh_S) (fun u τ => nh_E kX8_countWays 17 [some (.ref 0), some (.int (nI set)), some (.int (nI u)), none, none, none] [] τ Q) (fun u τ => frC [32] σ τ ∧ ∀ V, V < 2 ^ sP S → τ.2.1 32 V = nI (w2 S set u 0 V)) (2 ^ sP S) ?_ ?_ (2 ^ sP S) 0 _ (by omega) ⟨hfr, fun V hV => ?_⟩
  · rintro τ ⟨t1, t2⟩
    have hCt := hCf τ t1
    refine sg_X8_countWays_17 _ _ ⟨hCt.1.1, ?_⟩
    rw [hCt.2.1.2.1, bs_full (by omega)]
    refine pk_lt (2 ^ sP S - 1) (2 ^ sP S) (fun _ => hQ τ hCt (fun V hV => ?_)) (fun c => by omega)
    rw [t2 V hV]
    congr 1
    -- all that lead to V are told
    unfold w2
    by_cases h0 : V = 0
    · rw [if_pos h0, h0, lc_0]
    · rw [if_neg h0, lc_eq S set h0 (by omega)]
      unfold ps
      apply fb_sm_cong
      intro p _
      by_cases e : lcc S set V p = true
      · have := clr_lt (U := V) (p := p) (by omega) (lcc_bit e)
        rw [if_pos ⟨e, Or.inl (by omega)⟩, if_pos e]
      · rw [if_neg (fun q => e q.1), if_neg e]
  · rintro u τ hu ⟨t1, t2⟩ ih
    have hCt := hCf τ t1
    have hpl := pop_le u
    have hll := lc_lt h12 set (U := u) (by omega)
    have e32 : τ.2.1 32 u = nI (lc S set u) := by rw [t2 u hu, w2_self (by omega)]
    refine sg_X8_countWays_17 _ _ ⟨hCt.1.1, ?_⟩
    rw [hCt.2.1.2.1, bs_full (by omega)]
    refine pk_lt (2 ^ sP S - 1) u (fun c => by omega) (fun c => ?_)
    refine c_bitCount (by omega) ⟨_, rfl, pk_in u 4096 (by omega), ?_⟩
    rw [pk_cl u rfl (by omega), e32, nI_1]
    refine ⟨fun c5 => ?_, fun c5 => ⟨hCt.1.1, ?_⟩⟩
    · have hz : lc S set u = 0 := by
        apply Classical.byContradiction
        intro q
        exact nI_nle (by omega) hll c5
      refine ih τ ⟨t1, fun V hV => ?_⟩
      rw [w2_skip (Or.inl hz)]
      exact t2 V hV
    · rw [hCt.2.1.2.1]
      refine pk_le (sP S) (pop u) (fun c6 => ?_) (fun c6 => ⟨pk_in (pop u) 12 (by omega), ?_⟩)
      · refine ih τ ⟨t1, fun V hV => ?_⟩
        rw [w2_skip (Or.inr (fun p hp e q => ?_))]
        · exact t2 V hV
        · have h1 := pop_fullN h12 hu c6 p hp
          have h2 := clr_bit (U := V) (p := p) (i := p) (by omega)
          rw [q, h1] at h2
          simp at h2
      · have hft := (hW.2.1.1 (pop u) c6).2
        rw [pk_cl (pop u) rfl (by omega), (hCt.2.2.1.1 (pop u) c6).2, fa_and]
        have hfs : sFt S (pop u) &&& set < 4096 := Nat.lt_of_le_of_lt Nat.and_le_right (by omega)
        rw [show nI (sFt S (pop u) &&& set) &&& (nI u ^^^ (-1)) = nI (dif (sFt S (pop u) &&& set) u) from bs_diff (by omega) (by omega)]
        have hdl : dif (sFt S (pop u) &&& set) u < 2 ^ 31 := mk_lt _ _
        refine nh_loop (α := nh_S) (fun p υ => nh_E kX8_countWays 73 [some (.ref 0), some (.int (nI set)), some (.int (nI u)), none, some (.int (nI (dif (sFt S (pop u) &&& set) u))), some (.int (nI p))] [] υ Q) (fun p υ => frC [32] σ υ ∧ ∀ V, V < 2 ^ sP S → υ.2.1 32 V = nI (w2 S set u p V)) (sP S) ?_ ?_ (sP S) 0 τ (by omega) ⟨t1, t2⟩
        · rintro υ ⟨u1, u2⟩
          have hCu := hCf υ u1
          refine sg_X8_countWays_73 _ _ _ _ ⟨hCu.1.1, pk_le (sP S) (sP S) (fun _ => ?_) (fun c => by omega) hCu.2.1.2.1 rfl⟩
          rw [nI_1]
          refine ih υ ⟨u1, fun V hV => ?_⟩
          rw [u2 V hV, w2_all]
        · rintro p υ hp ⟨u1, u2⟩ ih2
          have hCu := hCf υ u1
          have e2p : 2 ^ p < 2 ^ sP S := Nat.pow_lt_pow_right (by omega) hp
          have hor : u ||| 2 ^ p < 2 ^ sP S := Nat.or_lt_two_pow hu e2p
          refine sg_X8_countWays_73 _ _ _ _ ⟨hCu.1.1, pk_le (sP S) p (fun c => by omega) (fun c => ?_) hCu.2.1.2.1 rfl⟩
          rw [bs_hs hdl (by omega), bs_shl (by omega), fa_or, pk_cl (u ||| 2 ^ p) rfl (by omega), pk_cl u rfl (by omega), nI_1]
          refine ⟨fun c7 => ?_, fun c7 => ⟨pk_in (u ||| 2 ^ p) 4096 (by omega), pk_in u 4096 (by omega), ?_⟩⟩
          · refine ih2 υ ⟨u1, fun V hV => ?_⟩
            rw [w2_step hp, if_neg (fun q => c7 ((w2_one (by omega) (by omega) (by omega) (by omega) (by omega)).mp q).2), Nat.add_zero]
            exact u2 V hV
          · refine ih2 _ ⟨u1.wa _ _ (by decide), fun V hV => ?_⟩
            have hone := w2_one (S := S) (set := set) (u := u) (p := p) (V := V) (by omega) (by omega) (by omega) (by omega) (by omega)
            rw [bs_get, w2_step hp]
            by_cases e : V = u ||| 2 ^ p
            · rw [if_pos ⟨rfl, e⟩, if_pos (hone.mpr ⟨e, c7⟩), u2 (u ||| 2 ^ p) hor, u2 u hu, nI_add, e]
              congr 2
              -- at u itself nothing is told any more
              have : w2 S set u p u = w2 S set u 0 u := by
                unfold w2
                by_cases h0 : u = 0
                · rw [if_pos h0, if_pos h0]
                · rw [if_neg h0, if_neg h0]
                  apply fb_sm_cong
                  intro q _
                  by_cases e3 : lcc S set u q = true
                  · have := clr_lt (U := u) (p := q) (by omega) (lcc_bit e3)
                    rw [if_pos ⟨e3, Or.inl this⟩, if_pos ⟨e3, Or.inl this⟩]
                  · rw [if_neg (fun z => e3 z.1), if_neg (fun z => e3 z.1)]
              rw [this, w2_self (by omega)]
            · rw [if_neg (fun z => e z.2), if_neg (fun q => e (hone.mp q).1), Nat.add_zero]
              exact u2 V hV
  · rw [bs_get]
    unfold w2
    by_cases e : V = 0
    · rw [if_pos ⟨rfl, e⟩, if_pos e]; rfl
    · rw [if_neg (fun z => e z.2), if_neg e, r4 V (by omega)]
      have hz := fb_sm_const 0 (sP S)
      rw [Nat.mul_zero] at hz
      rw [(fb_sm_cong (fun k _ => if_neg (fun q => by have := q.2; omega))).trans hz]
      rfl
theorem c_ladders {S : SP} {σ : nh_S} (hC : CR σ S) (hW : WF S) (x y : Int32) {Q : Option Value → nh_S → Prop} (hQ : ∀ τ, CR τ S → Q (some (.int (aLadders S x y))) τ) : nh_E kX8_ladders 0 [some (.ref 0), some (.int x), some (.int y), none, none] [] σ Q := by
  have h12 := hW.1.2.1
  have hpw : 2 ^ sP S ≤ 2 ^ 12 := pw_le h12
  have hpp := Nat.two_pow_pos (sP S)
  unfold aLadders at hQ
  refine sg_X8_ladders_0 x y ⟨hC.1.1, ?_⟩
  rw [hC.2.1.2.1, bs_bey (by omega)]
  rcases ix_cases x (n := 2 ^ sP S) (by omega) with ⟨set, hs, rfl, e⟩ | ⟨e, hx⟩
  · refine ⟨fun _ => ?_, fun c => absurd ⟨set, hs, rfl⟩ c⟩
    rcases ix_cases y (n := sP S + 1) (by omega) with ⟨m, hm, rfl, e2⟩ | ⟨e2, hy⟩
    · rw [e, e2] at hQ
      dsimp only at hQ
      refine ⟨fun z => absurd z (nI_pos (by omega)), fun _ => ⟨fun _ => ?_, fun z => absurd (nI_le (by omega) (by omega)) z⟩⟩
      refine c_countWays hC hW hs (fun τ t1 t2 => ⟨rfl, ?_⟩)
      refine nh_loop (α := Unit) (fun U _ => nh_E kX8_ladders 45 [some (.ref 0), none, some (.int (nI m)), some (.int (nI (lsm S set m U))), some (.int (nI U))] [] τ Q) (fun _ _ => True) (2 ^ sP S) ?_ ?_ (2 ^ sP S) 0 () (by omega) trivial
      · intro _ _
        refine sg_X8_ladders_45 _ _ _ ⟨t1.1.1, ?_⟩
        rw [t1.2.1.2.1, bs_full (by omega)]
        exact pk_lt (2 ^ sP S - 1) (2 ^ sP S) (fun _ => hQ τ t1) (fun c => by omega)
      · intro U _ hU _ ih
        have ih := ih () trivial
        have e1 : lsm S set m (U + 1) = lsm S set m U + (if decide (pop U = m) = true then lc S set U else 0) := fb_sm_succ _ _
        rw [e1] at ih
        have hpl := pop_le U
        refine sg_X8_ladders_45 _ _ _ ⟨t1.1.1, ?_⟩
        rw [t1.2.1.2.1, bs_full (by omega)]
        refine pk_lt (2 ^ sP S - 1) U (fun c => by omega) (fun c => ?_)
        refine c_bitCount (by omega) ⟨_, rfl, ?_⟩
        dsimp only
        rw [pk_cl U rfl (by omega), nI_1, t2 U hU, nI_add]
        refine And.symm (pk_eq (pop U) m (fun c5 => ⟨pk_in U 4096 (by omega), ?_⟩) (fun c5 => ?_))
        · rw [if_pos (decide_eq_true c5)] at ih
          exact ih
        · rw [if_neg (fun q => c5 (of_decide_eq_true q))] at ih
          exact ih
    · rw [e, e2] at hQ
      refine ⟨fun _ => hQ _ hC, fun c1 => ⟨fun c2 => ?_, fun _ => hQ _ hC⟩⟩
      exfalso
      obtain ⟨h, hh, q⟩ := (ix_lit (x := y) (n := sP S) (by omega)).mp ⟨c1, fun c3 => (fa_of_lt c3).2.1 c2⟩
      exact hy h (by omega) q
  · rw [e] at hQ
    exact ⟨fun c => absurd (fun ⟨h, hh, q⟩ => hx h hh q) c, fun _ => hQ _ hC⟩
/-- the most PARTS of a ladder among the SETS below n -/
def mxl (S : SP) (set : Nat) : Nat → Nat
  | 0 => 0
  | U + 1 => if lc S set U = 0 then mxl S set U else max (mxl S set U) (pop U)
theorem mxl_up (S : SP) (set : Nat) : ∀ n U, U < n → lc S set U ≠ 0 → pop U ≤ mxl S set n
  | 0, U, h, _ => by omega
  | n + 1, U, h, hl => by
    rw [mxl]
    by_cases e : U = n
    · subst e
      rw [if_neg hl]
      exact Nat.le_max_right _ _
    · have ih := mxl_up S set n U (by omega) hl
      split
      · exact ih
      · exact Nat.le_trans ih (Nat.le_max_left _ _)
theorem mxl_is (S : SP) (set : Nat) : ∀ n, mxl S set n = 0 ∨ ∃ U, U < n ∧ lc S set U ≠ 0 ∧ pop U = mxl S set n
  | 0 => Or.inl rfl
  | n + 1 => by
    rw [mxl]
    have ih := mxl_is S set n
    have up : (mxl S set n = 0 ∨ ∃ U, U < n + 1 ∧ lc S set U ≠ 0 ∧ pop U = mxl S set n) := by
      rcases ih with h | ⟨U, h1, h2, h3⟩
      · exact Or.inl h
      · exact Or.inr ⟨U, by omega, h2, h3⟩
    split
    · exact up
    · rename_i hl
      by_cases q : mxl S set n ≤ pop n
      · rw [Nat.max_eq_right q]
        exact Or.inr ⟨n, by omega, hl, rfl⟩
      · rw [Nat.max_eq_left (by omega)]
        exact up
theorem mxl_le (S : SP) (set n : Nat) : mxl S set n ≤ 12 := by
  rcases mxl_is S set n with h | ⟨U, -, -, h3⟩
  · omega
  · rw [← h3]; exact pop_le U
theorem lsm_z {S : SP} {set m n : Nat} : lsm S set m n = 0 ↔ ∀ U, U < n → pop U = m → lc S set U = 0 := by
  unfold lsm
  constructor
  · intro h U hU e
    have := fb_sm_zero h U hU
    rw [if_pos (decide_eq_true e)] at this
    exact this
  · intro h
    have hz := fb_sm_const 0 n
    rw [Nat.mul_zero] at hz
    refine (fb_sm_cong (fun U hU => ?_)).trans hz
    by_cases e : pop U = m
    · rw [if_pos (decide_eq_true e)]; exact h U hU e
    · rw [if_neg (fun q => e (of_decide_eq_true q))]
theorem lgd_mx {S : SP} (h12 : sP S ≤ 12) (set : Nat) : ∀ m, (∀ k, m < k → k ≤ sP S → lsm S set k (2 ^ sP S) = 0) → m ≤ sP S → lgd S set m = mxl S set (2 ^ sP S)
  | 0, h, _ => by
    rcases mxl_is S set (2 ^ sP S) with q | ⟨U, h1, h2, h3⟩
    · rw [q]; rfl
    · by_cases q : mxl S set (2 ^ sP S) = 0
      · rw [q]; rfl
      · exfalso
        have := pop_bd h12 h1
        exact h2 (lsm_z.mp (h (pop U) (by omega) this) U h1 rfl)
  | m + 1, h, hm => by
    rw [lgd]
    by_cases e : lsm S set (m + 1) (2 ^ sP S) = 0
    · rw [if_pos e]
      refine lgd_mx h12 set m (fun k hk hk2 => ?_) (by omega)
      by_cases q : k = m + 1
      · rw [q]; exact e
      · exact h k (by omega) hk2
    · rw [if_neg e]
      apply Nat.le_antisymm
      · apply Classical.byContradiction
        intro q
        apply e
        rw [lsm_z]
        intro U hU hp
        apply Classical.byContradiction
        intro z
        have := mxl_up S set _ U hU z
        omega
      · rcases mxl_is S set (2 ^ sP S) with q | ⟨U, h1, h2, h3⟩
        · omega
        · apply Classical.byContradiction
          intro z
          have := pop_bd h12 h1
          exact h2 (lsm_z.mp (h (pop U) (by omega) this) U h1 rfl)
theorem c_longest {S : SP} {σ : nh_S} (hC : CR σ S) (hW : WF S) (x : Int32) {Q : Option Value → nh_S → Prop} (hQ : ∀ τ, CR τ S → Q (some (.int (aLongest S x))) τ) : nh_E kX8_longest 0 [some (.ref 0), some (.int x), none, none] [] σ Q := by
  have h12 := hW.1.2.1
  have hpw : 2 ^ sP S ≤ 2 ^ 12 := pw_le h12
  have hpp := Nat.two_pow_pos (sP S)
  unfold aLongest at hQ
  refine sg_X8_longest_0 x ⟨hC.1.1, ?_⟩
  rw [hC.2.1.2.1, bs_bey (by omega)]
  rcases ix_cases x (n := 2 ^ sP S) (by omega) with ⟨set, hs, rfl, e⟩ | ⟨e, hx⟩
  · refine ⟨fun _ => ?_, fun c => absurd ⟨set, hs, rfl⟩ c⟩
    rw [e] at hQ
    dsimp only at hQ
    rw [lgd_mx h12 set (sP S) (fun k h1 h2 => by omega) (Nat.le_refl _)] at hQ
    refine c_countWays hC hW hs (fun τ t1 t2 => ⟨rfl, ?_⟩)
    refine nh_loop (α := Unit) (fun U _ => nh_E kX8_longest 26 [some (.ref 0), none, some (.int (nI (mxl S set U))), some (.int (nI U))] [] τ Q) (fun _ _ => True) (2 ^ sP S) ?_ ?_ (2 ^ sP S) 0 () (by omega) trivial
    · intro _ _
      refine sg_X8_longest_26 _ _ ⟨t1.1.1, ?_⟩
      rw [t1.2.1.2.1, bs_full (by omega)]
      exact pk_lt (2 ^ sP S - 1) (2 ^ sP S) (fun _ => hQ τ t1) (fun c => by omega)
    · intro U _ hU _ ih
      have ih := ih () trivial
      rw [mxl] at ih
      have hpl := pop_le U
      have hml := mxl_le S set U
      have hll := lc_lt h12 set (U := U) (by omega)
      refine sg_X8_longest_26 _ _ ⟨t1.1.1, ?_⟩
      rw [t1.2.1.2.1, bs_full (by omega)]
      refine pk_lt (2 ^ sP S - 1) U (fun c => by omega) (fun c => ⟨pk_in U 4096 (by omega), ?_⟩)
      rw [pk_cl U rfl (by omega), nI_1, t2 U hU]
      refine ⟨fun c5 => ?_, fun c5 => ?_⟩
      · rw [if_pos (show lc S set U = 0 by
          apply Classical.byContradiction
          intro q
          exact nI_nle (by omega) hll c5)] at ih
        exact ih
      · rw [if_neg (fun q => c5 (by rw [q]; decide))] at ih
        refine c_bitCount (by omega) ⟨_, rfl, ?_⟩
        dsimp only
        rw [nI_mx (by omega) (by omega)]
        exact ih
  · rw [e] at hQ
    exact ⟨fun c => absurd (fun ⟨h, hh, q⟩ => hx h hh q) c, fun _ => hQ _ hC⟩
