/-! LADDERS: the spec's count, and the reference -/
/-- a SET without a PART -/
def clr (U p : Nat) : Nat := dif U (2 ^ p)
theorem clr_bit {U p i : Nat} (hU : U < 2 ^ 31) : (clr U p).testBit i = (U.testBit i && decide (i ≠ p)) := by
  unfold clr dif
  rw [mk_bit, Nat.testBit_two_pow]
  by_cases h : i < 31
  · simp [h]
    by_cases e : i = p
    · simp [e]
    · simp [e, show ¬ p = i from fun z => e z.symm]
  · simp [h, bs_big hU (by omega : 31 ≤ i)]
theorem clr_lt {U p : Nat} (hU : U < 2 ^ 31) (h : U.testBit p = true) : clr U p < U := by
  refine Nat.lt_of_le_of_ne (Nat.le_of_testBit (fun i hi => ?_)) (fun e => ?_)
  · rw [clr_bit hU, Bool.and_eq_true] at hi
    exact hi.1
  · have h2 := clr_bit (p := p) (i := p) hU
    rw [e, h] at h2
    simp at h2
theorem clr_pop {U p : Nat} (hU : U < 2 ^ 31) (h : U.testBit p = true) (hp : p < 12) : pop (clr U p) + 1 = pop U := by
  have h1 := fb_ct_upd (fun i => U.testBit i) false (i := p) hp
  rw [if_pos h, if_neg (by decide)] at h1
  have h1 := h1.trans (Nat.add_zero _)
  unfold pop
  rw [← h1]
  congr 1
  apply fb_ct_cong
  intro k _
  rw [clr_bit hU]
  by_cases e : k = p
  · simp [e]
  · simp [e]
/-- may PART p be the last of the SET U's ladder -/
def lcc (S : SP) (set U p : Nat) : Bool := U.testBit p && set.testBit p && (sFt S (pop U - 1)).testBit p
def ltT (S : SP) (set : Nat) : Nat → Nat → Nat
  | 0 => fun _ => 0
  | U + 1 => fun V => if V = U then (if U = 0 then 1 else fb_sm (fun p => if lcc S set U p = true then ltT S set U (clr U p) else 0) (sP S)) else ltT S set U V
/-- in how many ways the first SLOTS take just the PARTS of U -/
def lc (S : SP) (set U : Nat) : Nat := ltT S set (U + 1) U
theorem ltT_eq (S : SP) (set : Nat) {V : Nat} : ∀ {n : Nat}, V < n → ltT S set n V = lc S set V
  | 0, h => absurd h (by omega)
  | n + 1, h => by
    by_cases e : V = n
    · subst e; rfl
    · rw [ltT]
      dsimp only
      rw [if_neg e]
      exact ltT_eq S set (by omega)
def ps (S : SP) (set U n : Nat) : Nat := fb_sm (fun p => if lcc S set U p = true then lc S set (clr U p) else 0) n
theorem lc_0 (S : SP) (set : Nat) : lc S set 0 = 1 := by
  unfold lc
  rw [ltT]
  dsimp only
  rw [if_pos rfl, if_pos rfl]
theorem lcc_bit {S : SP} {set U p : Nat} (h : lcc S set U p = true) : U.testBit p = true := by
  unfold lcc at h
  simp only [Bool.and_eq_true] at h
  exact h.1.1
theorem lc_eq (S : SP) (set : Nat) {U : Nat} (h0 : U ≠ 0) (hU : U < 2 ^ 31) : lc S set U = ps S set U (sP S) := by
  unfold lc ps
  rw [ltT]
  dsimp only
  rw [if_pos rfl, if_neg h0]
  apply fb_sm_cong
  intro p _
  by_cases e : lcc S set U p = true
  · rw [if_pos e, if_pos e]
    exact ltT_eq S set (clr_lt hU (lcc_bit e))
  · rw [if_neg e, if_neg e]
def fac : Nat → Nat
  | 0 => 1
  | n + 1 => (n + 1) * fac n
theorem fb_sm_if {p : Nat → Bool} {c : Nat} : ∀ n, fb_sm (fun k => if p k = true then c else 0) n = fb_ct p n * c
  | 0 => by simp [fb_sm, fb_ct]
  | n + 1 => by
    rw [fb_sm_succ, fb_ct_succ, fb_sm_if n, Nat.add_mul]
    congr 1
    split <;> simp
theorem lc_le {S : SP} (h12 : sP S ≤ 12) (set : Nat) : ∀ (N U : Nat), U < N → U < 4096 → lc S set U ≤ fac (pop U)
  | 0, U, h, _ => absurd h (by omega)
  | N + 1, U, h, hU => by
    by_cases h0 : U = 0
    · subst h0
      rw [lc_0]
      exact (by decide : 1 ≤ fac (pop 0))
    · rw [lc_eq S set h0 (by omega)]
      have h1 : ps S set U (sP S) ≤ fb_sm (fun p => if U.testBit p = true then fac (pop U - 1) else 0) (sP S) := by
        apply fb_sm_le
        intro p hp
        by_cases e : lcc S set U p = true
        · have hb := lcc_bit e
          rw [if_pos e, if_pos hb]
          have hl := clr_lt (U := U) (by omega) hb
          have hp2 := clr_pop (U := U) (by omega) hb (by omega)
          have := lc_le h12 set N (clr U p) (by omega) (by omega)
          rw [show pop U - 1 = pop (clr U p) by omega]
          exact this
        · rw [if_neg e]; exact Nat.zero_le _
      rw [fb_sm_if] at h1
      have h2 : fb_ct (fun p => U.testBit p) (sP S) ≤ pop U := fb_ct_mono _ h12
      have h3 : pop U * fac (pop U - 1) = fac (pop U) := by
        have : 1 ≤ pop U := by
          apply Nat.pos_of_ne_zero
          intro q
          apply h0
          apply Nat.eq_of_testBit_eq
          intro i
          rw [Nat.zero_testBit]
          by_cases hi : i < 12
          · exact fb_ct_zero.mp q i hi
          · exact Nat.testBit_lt_two_pow (Nat.lt_of_lt_of_le (show U < 2 ^ 12 by omega) (pw_le (by omega)))
        obtain ⟨k, hk⟩ : ∃ k, pop U = k + 1 := ⟨pop U - 1, by omega⟩
        rw [hk]
        rfl
      exact Nat.le_trans h1 (by rw [← h3]; exact Nat.mul_le_mul_right _ h2)
/-- the ladders of just m PARTS among the SETS below n -/
def lsm (S : SP) (set m n : Nat) : Nat := fb_sm (fun U => if decide (pop U = m) = true then lc S set U else 0) n
theorem ct_block (p : Nat → Bool) : ∀ a, fb_ct p (a * 64) = fb_sm (fun i => fb_ct (fun j => p (i * 64 + j)) 64) a
  | 0 => by simp [fb_ct, fb_sm]
  | a + 1 => by rw [Nat.succ_mul, fb_ct_split, fb_sm_succ, ct_block p a]
theorem pop_ct : ∀ m, m < 13 → fb_sm (fun i => fb_ct (fun j => decide (pop (i * 64 + j) = m)) 64) 64 * fac m < 2 ^ 31 := by decide +kernel
theorem lsm_lt {S : SP} (h12 : sP S ≤ 12) (set : Nat) {m n : Nat} (hm : m ≤ 12) (hn : n ≤ 4096) : lsm S set m n < 2 ^ 31 := by
  have h1 : lsm S set m n ≤ fb_sm (fun U => if decide (pop U = m) = true then fac m else 0) n := by
    apply fb_sm_le
    intro U hU
    by_cases e : pop U = m
    · rw [if_pos (decide_eq_true e), if_pos (decide_eq_true e), ← e]
      exact lc_le h12 set (U + 1) U (by omega) (by omega)
    · rw [if_neg (fun q => e (of_decide_eq_true q)), if_neg (fun q => e (of_decide_eq_true q))]
      exact Nat.le_refl 0
  rw [fb_sm_if] at h1
  have h2 : fb_ct (fun U => decide (pop U = m)) n ≤ fb_ct (fun U => decide (pop U = m)) 4096 := fb_ct_mono _ hn
  have h3 := pop_ct m (by omega)
  rw [← ct_block (fun U => decide (pop U = m)) 64] at h3
  exact Nat.lt_of_le_of_lt (Nat.le_trans h1 (Nat.mul_le_mul_right _ h2)) h3
theorem pop_pos {U : Nat} (h0 : U ≠ 0) (hU : U < 4096) : 1 ≤ pop U := by
  apply Nat.pos_of_ne_zero
  intro q
  apply h0
  apply Nat.eq_of_testBit_eq
  intro i
  rw [Nat.zero_testBit]
  by_cases hi : i < 12
  · exact fb_ct_zero.mp q i hi
  · exact Nat.testBit_lt_two_pow (Nat.lt_of_lt_of_le (show U < 2 ^ 12 by omega) (pw_le (by omega)))
set_option maxHeartbeats 1000000 in
theorem r_laddersOf {S : SP} {σ : nh_S} (hR : RR σ S) (hW : WF S) {set m : Nat} (hs : set < 2 ^ sP S) (hm : m ≤ sP S) {Q : Option Value → nh_S → Prop} (hQ : ∀ τ, pr σ τ → Q (some (.int (nI (lsm S set m (2 ^ sP S))))) τ) : nh_E kX9_laddersOf 0 [some (.ref 0), some (.int (nI set)), some (.int (nI m)), none, none, none, none] [] σ Q := by
  have h12 := hW.1.2.1
  have hpw : 2 ^ sP S ≤ 2 ^ 12 := pw_le h12
  have hpp := Nat.two_pow_pos (sP S)
  refine sg_X9_laddersOf_0 _ _ ?_
  -- the sum
  have second : ∀ τ, pr σ τ → (∀ V, V < 2 ^ sP S → pop V ≤ m → τ.2.1 25 V = nI (lc S set V)) → nh_E kX9_laddersOf 151 [some (.ref 0), none, some (.int (nI m)), some (.int (nI 0)), some (.int (nI 0)), none, none] [] τ Q := by
    intro τ hp h25
    have hRt := hR.pr h12 hp
    refine nh_loop (α := Unit) (fun U _ => nh_E kX9_laddersOf 151 [some (.ref 0), none, some (.int (nI m)), some (.int (nI (lsm S set m U))), some (.int (nI U)), none, none] [] τ Q) (fun _ _ => True) (2 ^ sP S) ?_ ?_ (2 ^ sP S) 0 () (by omega) trivial
    · intro _ _
      refine sg_X9_laddersOf_151 _ _ _ ?_
      rw [hRt.1.2.1, bs_full (by omega)]
      exact pk_lt (2 ^ sP S - 1) (2 ^ sP S) (fun _ => hQ τ hp) (fun c => by omega)
    · intro U _ hU _ ih
      have ih := ih () trivial
      have e1 : lsm S set m (U + 1) = lsm S set m U + (if decide (pop U = m) = true then lc S set U else 0) := fb_sm_succ _ _
      rw [e1] at ih
      refine sg_X9_laddersOf_151 _ _ _ ?_
      rw [hRt.1.2.1, bs_full (by omega)]
      refine pk_lt (2 ^ sP S - 1) U (fun c => by omega) (fun c => ?_)
      refine r_ones (by omega) ⟨_, rfl, ?_⟩
      have hpl := pop_le U
      rw [pk_cl U rfl (by omega), nI_1]
      refine ⟨fun _ => pk_in U 4096 (by omega), ?_⟩
      by_cases e : pop U = m
      · rw [if_pos (decide_eq_true e)] at ih
        rw [if_pos (by rw [e]), h25 U hU (by omega), nI_add]
        exact ih
      · rw [if_neg (fun q => e (of_decide_eq_true q))] at ih
        rw [if_neg (by rw [nI_eq (by omega) (by omega)]; exact e), show (0 : Int32) = nI 0 from rfl, nI_add]
        exact ih
  refine nh_loop (α := nh_S) (fun U τ => nh_E kX9_laddersOf 2 [some (.ref 0), some (.int (nI set)), some (.int (nI m)), some (.int (nI U)), none, none, none] [] τ Q) (fun U τ => pr σ τ ∧ ∀ V, V < U → pop V ≤ m → τ.2.1 25 V = nI (lc S set V)) (2 ^ sP S) ?_ ?_ (2 ^ sP S) 0 σ (by omega) ⟨pr.rf σ, fun V hV => by omega⟩
  · rintro τ ⟨hp, h25⟩
    have hRt := hR.pr h12 hp
    refine sg_X9_laddersOf_2 _ _ _ ?_
    rw [hRt.1.2.1, bs_full (by omega)]
    exact pk_lt (2 ^ sP S - 1) (2 ^ sP S) (fun _ => second τ hp h25) (fun c => by omega)
  · rintro U τ hU ⟨hp, h25⟩ ih
    have hRt := hR.pr h12 hp
    have hpl := pop_le U
    refine sg_X9_laddersOf_2 _ _ _ ?_
    rw [hRt.1.2.1, bs_full (by omega)]
    refine pk_lt (2 ^ sP S - 1) U (fun c => by omega) (fun c => ⟨pk_in U 4096 (by omega), ?_⟩)
    rw [pk_cl U rfl (by omega)]
    refine r_ones (by omega) ⟨_, rfl, ?_⟩
    have hp0 := hp.tr (pr.wa τ (k := 25) U (if nI U = 0 then 1 else 0) (by decide))
    by_cases h0 : U = 0
    · subst h0
      have hR0 := hR.pr h12 hp0
      refine sg_X9_laddersOf_39 _ _ _ _ _ ?_
      rw [hR0.1.2.1, nI_1]
      have fin : nh_E kX9_laddersOf 2 [some (.ref 0), some (.int (nI set)), some (.int (nI m)), some (.int (nI (0 + 1))), none, none, none] [] (nh_wa τ 25 0 (if nI 0 = 0 then 1 else 0)) Q := by
        refine ih _ ⟨hp0, fun V hV hm2 => ?_⟩
        have e : V = 0 := by omega
        subst e
        rw [bs_get, if_pos ⟨rfl, rfl⟩, lc_0]
        rfl
      exact ⟨fun _ => fin, fun _ => ⟨fun _ => fin, fun q => absurd (show nI 0 ≤ 0 by decide) q⟩⟩
    · have hpos := pop_pos h0 (by omega)
      have e4 : nI (pop U) - 1 = nI (pop U - 1) := by
        have := nI_pred (pop U - 1)
        rw [show pop U - 1 + 1 = pop U by omega] at this
        exact this
      show nh_E kX9_laddersOf 39 [some (.ref 0), some (.int (nI set)), some (.int (nI m)), some (.int (nI U)), some (.int (nI (pop U) - 1)), some (.int 0), none] [] (nh_wa τ 25 U (if nI U = 0 then 1 else 0)) Q
      rw [e4]
      refine nh_loop (α := nh_S) (fun p υ => nh_E kX9_laddersOf 39 [some (.ref 0), some (.int (nI set)), some (.int (nI m)), some (.int (nI U)), some (.int (nI (pop U - 1))), some (.int (nI p)), none] [] υ Q) (fun p υ => pr σ υ ∧ (∀ V, V < U → pop V ≤ m → υ.2.1 25 V = nI (lc S set V)) ∧ (pop U ≤ m → υ.2.1 25 U = nI (ps S set U p))) (sP S) ?_ ?_ (sP S) 0 _ (by omega) ⟨hp0, fun V hV hm2 => by rw [bs_get, if_neg (by omega)]; exact h25 V hV hm2, fun _ => by rw [bs_get, if_pos ⟨rfl, rfl⟩, if_neg (nI_ne0 (by omega) (by omega))]; rfl⟩
      · rintro υ ⟨hpu, u1, u2⟩
        have hRu := hR.pr h12 hpu
        refine sg_X9_laddersOf_39 _ _ _ _ _ (pk_le (sP S) (sP S) (fun _ => ?_) (fun c => by omega) hRu.1.2.1 rfl)
        rw [nI_1]
        refine ih υ ⟨hpu, fun V hV hm2 => ?_⟩
        rcases (show V < U ∨ V = U by omega) with q | rfl
        · exact u1 V q hm2
        · rw [u2 hm2, lc_eq S set h0 (by omega)]
      · rintro p υ hp3 ⟨hpu, u1, u2⟩ ih2
        have hRu := hR.pr h12 hpu
        refine sg_X9_laddersOf_39 _ _ _ _ _ (pk_le (sP S) p (fun c => by omega) (fun c => ?_) hRu.1.2.1 rfl)
        refine ⟨fun q => absurd q (nI_nle (by omega) (by omega)), fun _ => ?_⟩
        have e12 : (12 : Int32) + nI (pop U - 1) = nI (12 + (pop U - 1)) := nI_add 12 _
        have eclr : nI U &&& (nI (2 ^ p) ^^^ (-1)) = nI (clr U p) := bs_diff (by omega) (Nat.lt_of_le_of_lt (pw_le (show p ≤ 12 by omega)) (by omega))
        rw [bs_shl (by omega), eclr, e12, pk_cl U rfl (by omega), pk_cl (12 + (pop U - 1)) rfl (by omega), nI_1]
        have hu : nh_hs (nI U) (nI p) ↔ U.testBit p = true := bs_hs (by omega) (by omega)
        have hse : nh_hs (nI set) (nI p) ↔ set.testBit p = true := bs_hs (by omega) (by omega)
        refine ⟨fun _ _ _ => pk_in (12 + (pop U - 1)) 78 (by omega), pk_in U 4096 (by omega), fun q => ?_, ?_⟩
        · have hl := clr_lt (by omega) (hu.mp q.1)
          exact pk_in (clr U p) 4096 (by omega)
        · have e1 : ps S set U (p + 1) = ps S set U p + (if lcc S set U p = true then lc S set (clr U p) else 0) := fb_sm_succ _ _
          refine ih2 _ ⟨hpu.tr (pr.wa _ _ _ (by decide)), fun V hV hm2 => by rw [bs_get, if_neg (by omega)]; exact u1 V hV hm2, fun hm2 => ?_⟩
          rw [bs_get, if_pos ⟨rfl, rfl⟩, u2 hm2, e1]
          have hft : υ.2.1 1 (12 + (pop U - 1)) = nI (sFt S (pop U - 1)) := (hRu.2.1.1 (pop U - 1) (by omega)).2
          have hfl := (hW.2.1.1 (pop U - 1) (by omega)).2
          have hff : nh_hs (nI (sFt S (pop U - 1))) (nI p) ↔ (sFt S (pop U - 1)).testBit p = true := bs_hs (by omega) (by omega)
          have hcond : (nh_hs (nI U) (nI p) ∧ (nh_hs (nI set) (nI p) ∧ (¬ (nI m ≤ nI (pop U - 1)) ∧ nh_hs (nI (sFt S (pop U - 1))) (nI p)))) ↔ lcc S set U p = true := by
            unfold lcc
            rw [hu, hse, hff, nI_leI (by omega) (by omega)]
            simp only [Bool.and_eq_true]
            constructor
            · rintro ⟨a, b, -, d⟩; exact ⟨⟨a, b⟩, d⟩
            · rintro ⟨⟨a, b⟩, d⟩; exact ⟨a, b, by omega, d⟩
          rw [hft]
          by_cases e : lcc S set U p = true
          · have hb := lcc_bit e
            have hl := clr_lt (U := U) (by omega) hb
            have hp4 := clr_pop (U := U) (by omega) hb (by omega)
            rw [if_pos (hcond.mpr e), if_pos e, pk_cl (clr U p) rfl (by omega), u1 _ hl (by omega), nI_add]
          · rw [if_neg (fun q => e (hcond.mp q)), if_neg e, show (0 : Int32) = nI 0 from rfl, nI_add]
def aLadders (S : SP) (x y : Int32) : Int32 := match ix x (2 ^ sP S) with
  | none => -1000001
  | some set => match ix y (sP S + 1) with
    | none => -1000002
    | some m => nI (lsm S set m (2 ^ sP S))
theorem r_ladders {S : SP} {σ : nh_S} (hR : RR σ S) (hW : WF S) (x y : Int32) {Q : Option Value → nh_S → Prop} (hQ : ∀ τ, RR τ S → Q (some (.int (aLadders S x y))) τ) : nh_E kX9_ladders 0 [some (.ref 0), some (.int x), some (.int y)] [] σ Q := by
  have h12 := hW.1.2.1
  have hpw : 2 ^ sP S ≤ 2 ^ 12 := pw_le h12
  unfold aLadders at hQ
  refine sg_X9_ladders_0 x y ?_
  rw [hR.1.2.1, ix_ful (by omega), ix_lit (by omega)]
  rcases ix_cases x (n := 2 ^ sP S) (by omega) with ⟨set, hs, rfl, e⟩ | ⟨e, hx⟩
  · refine ⟨fun _ => ?_, fun c => absurd ⟨set, hs, rfl⟩ c⟩
    rcases ix_cases y (n := sP S + 1) (by omega) with ⟨m, hm, rfl, e2⟩ | ⟨e2, hy⟩
    · rw [e, e2] at hQ
      exact ⟨fun c => absurd ⟨m, by omega, rfl⟩ c, fun _ => r_laddersOf hR hW hs (by omega) (fun τ t1 => ⟨_, rfl, hQ τ (hR.pr h12 t1)⟩)⟩
    · rw [e, e2] at hQ
      exact ⟨fun _ => hQ _ hR, fun ⟨h, hh, q⟩ => absurd q (hy h (by omega))⟩
  · rw [e] at hQ
    exact ⟨fun ⟨h, hh, q⟩ => absurd q (hx h hh), fun _ => hQ _ hR⟩
def lgd (S : SP) (set : Nat) : Nat → Nat
  | 0 => 0
  | m + 1 => if lsm S set (m + 1) (2 ^ sP S) = 0 then lgd S set m else m + 1
def aLongest (S : SP) (x : Int32) : Int32 := match ix x (2 ^ sP S) with
  | none => -1000001
  | some set => nI (lgd S set (sP S))
theorem lsm_0 (S : SP) (set : Nat) {n : Nat} (hn : 1 ≤ n) : 1 ≤ lsm S set 0 n := by
  have h := fb_sm_part (fun U => if decide (pop U = 0) = true then lc S set U else 0) (i := 0) (n := n) hn
  have h : (if decide (pop 0 = 0) = true then lc S set 0 else 0) ≤ _ := h
  rw [if_pos (by decide), lc_0] at h
  unfold lsm
  omega
theorem r_longest {S : SP} {σ : nh_S} (hR : RR σ S) (hW : WF S) (x : Int32) {Q : Option Value → nh_S → Prop} (hQ : ∀ τ, RR τ S → Q (some (.int (aLongest S x))) τ) : nh_E kX9_longest 0 [some (.ref 0), some (.int x), none] [] σ Q := by
  have h12 := hW.1.2.1
  have hpw : 2 ^ sP S ≤ 2 ^ 12 := pw_le h12
  have hpp := Nat.two_pow_pos (sP S)
  unfold aLongest at hQ
  refine sg_X9_longest_0 x ?_
  rw [hR.1.2.1, ix_ful (by omega)]
  rcases ix_cases x (n := 2 ^ sP S) (by omega) with ⟨set, hs, rfl, e⟩ | ⟨e, hx⟩
  · refine ⟨fun _ => ?_, fun c => absurd ⟨set, hs, rfl⟩ c⟩
    rw [e] at hQ
    dsimp only at hQ
    have main : ∀ m, m ≤ sP S → lgd S set (sP S) = lgd S set m → ∀ τ, RR τ S → nh_E kX9_longest 18 [some (.ref 0), some (.int (nI set)), some (.int (nI m))] [] τ Q := by
      intro m
      induction m with
      | zero =>
        intro _ hl τ hRt
        refine sg_X9_longest_18 _ _ ?_
        refine r_laddersOf hRt hW hs (Nat.zero_le _) (fun υ u1 => ⟨_, rfl, ?_⟩)
        have h1 := lsm_0 S set (n := 2 ^ sP S) hpp
        have h2 := lsm_lt h12 set (m := 0) (n := 2 ^ sP S) (by omega) (by omega)
        refine ⟨fun _ => ?_, fun q => absurd q (nI_ne0 (by omega) h2)⟩
        have h := hQ υ (hRt.pr h12 u1)
        rw [hl] at h
        exact h
      | succ m ih =>
        intro hm hl τ hRt
        refine sg_X9_longest_18 _ _ ?_
        refine r_laddersOf hRt hW hs hm (fun υ u1 => ⟨_, rfl, ?_⟩)
        have h2 := lsm_lt h12 set (m := m + 1) (n := 2 ^ sP S) (by omega) (by omega)
        have hRu := hRt.pr h12 u1
        refine ⟨fun q => ?_, fun q => ?_⟩
        · have hne : ¬ lsm S set (m + 1) (2 ^ sP S) = 0 := fun z => q (by rw [z]; rfl)
          have h := hQ υ hRu
          rw [hl, lgd, if_neg hne] at h
          exact h
        · have hz : lsm S set (m + 1) (2 ^ sP S) = 0 := by
            apply Classical.byContradiction
            intro z
            exact nI_ne0 (by omega) h2 q
          rw [pk_m1]
          refine ih (by omega) ?_ υ hRu
          rw [hl, lgd, if_pos hz]
    exact main (sP S) (Nat.le_refl _) rfl σ hR
  · rw [e] at hQ
    exact ⟨fun ⟨h, hh, q⟩ => absurd q (hx h hh), fun _ => hQ _ hR⟩
