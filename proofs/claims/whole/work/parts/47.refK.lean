/-! THE REFERENCE: where PARTS are kept -/
noncomputable def hl (S : SP) (f t : Nat) : Nat → Bool
  | 0 => true
  | n + 1 => hl S f t n && (match stF S f 0 n with
    | none => false
    | some v => decide (v ≤ t))
noncomputable def hld (S : SP) (f t : Nat) : Bool := hl S f t (sH S)
theorem hl_no {S : SP} {f t : Nat} : ∀ {n k : Nat}, hl S f t n = false → hl S f t (n + k) = false
  | n, 0, h => h
  | n, k + 1, h => by
    show (hl S f t (n + k) && _) = false
    rw [hl_no h]
    rfl
theorem r_holds {S : SP} {σ : nh_S} (hR : RR σ S) (hW : WF S) {f t : Nat} (hf : f < sH S) (ht : t ≤ 999) {Q : Option Value → nh_S → Prop} (hQ : ∀ τ, pr σ τ → Q (some (.int (if hld S f t = true then 1 else 0))) τ) : nh_E kX9_holds 0 [some (.ref 0), some (.int (nI f)), some (.int (nI t)), none, none, none] [] σ Q := by
  have h9 := hW.1.1
  have h12 := hW.1.2.1
  unfold hld at hQ
  refine sg_X9_holds_0 _ _ ?_
  refine nh_loop (α := nh_S) (fun i τ => nh_E kX9_holds 5 [some (.ref 0), some (.int (nI f)), some (.int (nI t)), some (.int (if hl S f t i = true then 1 else 0)), some (.int (nI i)), none] [] τ Q) (fun _ τ => pr σ τ) (sH S) ?_ ?_ (sH S) 0 σ (by omega) (pr.rf σ)
  · intro τ hp
    have hRt := hR.pr h12 hp
    refine sg_X9_holds_5 _ _ _ _ (pk_le (sH S) (sH S) (fun _ => ⟨by split <;> simp, hQ τ hp⟩) (fun c => by omega) hRt.1.1 rfl)
  · intro i τ hi hp ih
    have hRt := hR.pr h12 hp
    refine sg_X9_holds_5 _ _ _ _ (pk_le (sH S) i (fun c => by omega) (fun c => ?_) hRt.1.1 rfl)
    refine ⟨fun c5 => ⟨Or.inl c5, ?_⟩, fun c5 => ?_⟩
    · have e : hl S f t i = false := by
        cases q : hl S f t i with
        | false => rfl
        | true => rw [q] at c5; exact absurd c5 (by decide)
      have h := hQ τ hp
      have e2 := hl_no (k := sH S - i) e
      rw [show i + (sH S - i) = sH S by omega] at e2
      rw [e2] at h
      rw [e]
      exact h
    · have e : hl S f t i = true := by
        cases q : hl S f t i with
        | false => rw [q] at c5; exact absurd rfl c5
        | true => rfl
      refine r_standsBy (awm := 0) hRt hW hi hf (by omega) (fun υ u1 _ u3 _ => ⟨_, rfl, ?_⟩)
      have hsb := stO_bd (m := full S) hW u3
      have ih := ih υ (hp.tr u1)
      rw [nI_1]
      have hs : hl S f t (i + 1) = (match stO S (cmF S f 0 i) (full S) with
        | none => false
        | some v => decide (v ≤ t)) := by
        show (hl S f t i && _) = _
        rw [e]
        rfl
      rw [hs] at ih
      dsimp only
      cases hv : stO S (cmF S f 0 i) (full S) with
      | none =>
        rw [hv] at ih
        rw [if_neg (fun q => q.1 ot_neg)]
        exact ih
      | some v =>
        rw [hv] at ih
        dsimp only at ih
        have hb := hsb v hv
        by_cases e5 : v ≤ t
        · rw [if_pos (decide_eq_true e5)] at ih
          rw [if_pos ⟨ot_nn (by omega), by rw [ot_some, nI_ltI (by omega) (by omega)]; omega⟩]
          exact ih
        · rw [if_neg (fun z => e5 (of_decide_eq_true z))] at ih
          rw [if_neg (fun q => by have := q.2; rw [ot_some, nI_ltI (by omega) (by omega)] at this; omega)]
          exact ih
/-- the first HOUSE for a PART -/
noncomputable def mh (S : SP) (f t q : Nat) : Nat → Option Nat
  | 0 => none
  | n + 1 => match mh S f t q n with
    | some h => some h
    | none => if n ≠ sKp S q ∧ hld (sUp S 9 q 0 n) f t = true then some n else none
/-- the first move of one PART, none ahead of lo -/
noncomputable def m1 (S : SP) (f t lo : Nat) : Nat → Option (Nat × Nat)
  | 0 => none
  | q + 1 => match m1 S f t lo q with
    | some x => some x
    | none => if lo ≤ q then (mh S f t q (sH S)).map (fun h => (q, h)) else none
noncomputable def g2 (S : SP) (f t p : Nat) : Nat → Option Nat
  | 0 => none
  | n + 1 => match g2 S f t p n with
    | some h => some h
    | none => if n ≠ sKp S p ∧ (m1 (sUp S 9 p 0 n) f t (p + 1) (sP S)).isSome = true then some n else none
noncomputable def m2 (S : SP) (f t : Nat) : Nat → Option (Nat × Nat)
  | 0 => none
  | p + 1 => match m2 S f t p with
    | some x => some x
    | none => (g2 S f t p (sH S)).map (fun h => (p, h))
theorem sUp_back (S : SP) (p h : Nat) : sUp (sUp S 9 p 0 h) 9 p 0 (sKp S p) = S := by
  rw [sUp_two]
  funext t i j
  unfold sUp
  split
  · rename_i q
    obtain ⟨rfl, rfl, rfl⟩ := q
    rfl
  · rfl
theorem WF_kp {S : SP} (hW : WF S) {p h : Nat} (hh : h < sH S) : WF (sUp S 9 p 0 h) := by
  obtain ⟨h1, h2, h3, h4, h5, h6⟩ := hW
  have ne : ∀ t, t ≠ 9 → sUp S 9 p 0 h t = S t := fun t ht => sUp_ne S ht p 0 h
  refine ⟨WFc_tr h1 (fun t ht => ne t (by omega)), ⟨fun q hq => ?_, h2.2.1, h2.2.2⟩, WFp_tr h3 (ne 0 (by decide)) (ne 16 (by decide)) (ne 17 (by decide)) (ne 18 (by decide)), WFx_tr h4 (ne 0 (by decide)) (ne 1 (by decide)) (ne 13 (by decide)) (ne 14 (by decide)) (ne 15 (by decide)), WFi_tr h5 (ne 0 (by decide)) (ne 1 (by decide)) (ne 22 (by decide)) (ne 23 (by decide)) (ne 24 (by decide)) (ne 25 (by decide)) (ne 26 (by decide)), WFt_tr h6 (ne 19 (by decide)) (ne 20 (by decide)) (ne 21 (by decide))⟩
  have hq2 : q < sP S := hq
  refine ⟨?_, (h2.1 q hq2).2⟩
  show sUp S 9 p 0 h 9 q 0 < sH S
  rw [sUp_at]
  split
  · exact hh
  · exact (h2.1 q hq2).1
theorem RR_bk {σ : nh_S} {S : SP} {p h : Nat} (hR : RR σ (sUp S 9 p 0 h)) (h12 : sP S ≤ 12) (hp : p < sP S) : RR (nh_wa σ 1 p (nI (sKp S p))) S := by
  have h := RR_kp (S := sUp S 9 p 0 h) hR h12 (p := p) hp (sKp S p)
  rw [sUp_back] at h
  exact h
theorem r_movesTwo {S : SP} {σ : nh_S} (hR : RR σ S) (hW : WF S) {f t p : Nat} (hf : f < sH S) (ht : t ≤ 999) (hp : p < sP S) {Q : Option Value → nh_S → Prop}
    (hQ : ∀ τ, RR τ S → (∀ x, m1 S f t (p + 1) (sP S) = some x → τ.2.1 24 3 = nI x.1 ∧ τ.2.1 24 4 = nI x.2) → Q (some (.int (if (m1 S f t (p + 1) (sP S)).isSome = true then 1 else 0))) τ) : nh_E kX9_movesTwo 0 [some (.ref 0), some (.int (nI f)), some (.int (nI t)), some (.int (nI p)), none, none, none, none] [] σ Q := by
  have h9 := hW.1.1
  have h12 := hW.1.2.1
  have m1_lo : ∀ n, n ≤ p + 1 → m1 S f t (p + 1) n = none := by
    intro n
    induction n with
    | zero => intro _; rfl
    | succ n ih =>
      intro hn
      rw [m1, ih (by omega)]
      dsimp only
      rw [if_neg (by omega)]
  have m1_up : ∀ q x k, m1 S f t (p + 1) q = some x → m1 S f t (p + 1) (q + k) = some x := by
    intro q x k h
    induction k with
    | zero => exact h
    | succ k ih => rw [show q + (k + 1) = (q + k) + 1 from rfl, m1, ih]
  refine sg_X9_movesTwo_0 _ _ _ ?_
  rw [nI_1]
  refine nh_loop (α := nh_S) (fun q τ => nh_E kX9_movesTwo 5 [some (.ref 0), some (.int (nI f)), some (.int (nI t)), none, some (.int (nI q)), none, none, none] [] τ Q) (fun q τ => RR τ S ∧ m1 S f t (p + 1) q = none ∧ p + 1 ≤ q) (sP S) ?_ ?_ (sP S - (p + 1)) (p + 1) σ (by omega) ⟨hR, m1_lo _ (Nat.le_refl _), Nat.le_refl _⟩
  · rintro τ ⟨hRt, hn, -⟩
    refine sg_X9_movesTwo_5 _ _ _ (pk_le (sP S) (sP S) (fun _ => ?_) (fun c => by omega) hRt.1.2.1 rfl)
    have h := hQ τ hRt (fun x hx => by rw [hn] at hx; cases hx)
    rw [hn] at h
    exact h
  · rintro q τ hq ⟨hRt, hn, hlo⟩ ih
    have hkq := (hW.2.1.1 q hq).1
    refine sg_X9_movesTwo_5 _ _ _ (pk_le (sP S) q (fun c => by omega) (fun c => ⟨pk_in q 78 (by omega), ?_⟩) hRt.1.2.1 rfl)
    rw [pk_cl q rfl (by omega), (hRt.2.1.1 q hq).1]
    refine nh_loop (α := nh_S) (fun h υ => nh_E kX9_movesTwo 28 [some (.ref 0), some (.int (nI f)), some (.int (nI t)), none, some (.int (nI q)), some (.int (nI (sKp S q))), some (.int (nI h)), none] [] υ Q) (fun h υ => RR υ S ∧ mh S f t q h = none) (sH S) ?_ ?_ (sH S) 0 τ (by omega) ⟨hRt, rfl⟩
    · rintro υ ⟨hRu, hm⟩
      refine sg_X9_movesTwo_28 _ _ _ _ _ (pk_le (sH S) (sH S) (fun _ => ?_) (fun c => by omega) hRu.1.1 rfl)
      rw [nI_1]
      refine ih υ ⟨hRu, ?_, by omega⟩
      rw [m1, hn]
      dsimp only
      rw [if_pos hlo, hm]
      rfl
    · rintro h υ hh ⟨hRu, hm⟩ ih2
      refine sg_X9_movesTwo_28 _ _ _ _ _ (pk_le (sH S) h (fun c => by omega) (fun c => ⟨pk_in q 78 (by omega), ?_⟩) hRu.1.1 rfl)
      rw [pk_cl q rfl (by omega), nI_1]
      have hRk := RR_kp hRu h12 hq h
      have step : mh S f t q (h + 1) = if h ≠ sKp S q ∧ hld (sUp S 9 q 0 h) f t = true then some h else none := by rw [mh, hm]
      refine pk_eq h (sKp S q) (fun c5 => ?_) (fun c5 => ?_)
      · refine ih2 _ ⟨RR_bk hRk h12 hq, ?_⟩
        rw [step, if_neg (fun z => z.1 c5)]
      · refine r_holds hRk (WF_kp hW hh) hf ht (fun ρ r1 => ⟨_, rfl, pk_in q 78 (by omega), ?_⟩)
        have hRr := hRk.pr h12 r1
        refine ⟨fun c6 => ?_, fun c6 => ?_⟩
        · refine ih2 _ ⟨RR_bk hRr h12 hq, ?_⟩
          rw [step, if_neg (fun z => c6 (by rw [if_pos z.2]; decide))]
        · have hhl : hld (sUp S 9 q 0 h) f t = true := by
            cases z : hld (sUp S 9 q 0 h) f t with
            | true => rfl
            | false => rw [z] at c6; exact absurd rfl c6
          have em : mh S f t q (sH S) = some h := by
            have e1 : mh S f t q (h + 1) = some h := by rw [step, if_pos ⟨c5, hhl⟩]
            have up : ∀ k, mh S f t q (h + 1 + k) = some h := by
              intro k
              induction k with
              | zero => exact e1
              | succ k ihk => rw [show h + 1 + (k + 1) = (h + 1 + k) + 1 from rfl, mh, ihk]
            have := up (sH S - (h + 1))
            rw [show h + 1 + (sH S - (h + 1)) = sH S by omega] at this
            exact this
          have e2 : m1 S f t (p + 1) (sP S) = some (q, h) := by
            have e1 : m1 S f t (p + 1) (q + 1) = some (q, h) := by
              rw [m1, hn]
              dsimp only
              rw [if_pos hlo, em]
              rfl
            have := m1_up (q + 1) (q, h) (sP S - (q + 1)) e1
            rw [show q + 1 + (sP S - (q + 1)) = sP S by omega] at this
            exact this
          have hRb := RR_bk hRr h12 hq
          have h1 : pr (nh_wa ρ 1 q (nI (sKp S q))) (nh_wa (nh_wa (nh_wa ρ 1 q (nI (sKp S q))) 24 3 (nI q)) 24 4 (nI h)) := (pr.wa _ _ _ (by decide)).tr (pr.wa _ _ _ (by decide))
          have hq2 := hQ _ (hRb.pr h12 h1) (fun x hx => by
            rw [e2] at hx
            cases hx
            refine ⟨?_, ?_⟩
            · rw [bs_get, if_neg (by omega), bs_get, if_pos ⟨rfl, rfl⟩]
            · rw [bs_get, if_pos ⟨rfl, rfl⟩])
          rw [e2] at hq2
          exact hq2
/-- how many are moved, and what is told of them -/
noncomputable def kN (S : SP) (f t : Nat) : Option Nat := if hld S f t = true then some 0 else if (m1 S f t 0 (sP S)).isSome = true then some 1 else if (m2 S f t (sP S)).isSome = true then some 2 else none
noncomputable def kV (S : SP) (f t w : Nat) : Nat := match kN S f t with
  | some 1 => if w = 1 then ((m1 S f t 0 (sP S)).getD (0, 0)).1 else ((m1 S f t 0 (sP S)).getD (0, 0)).2
  | some 2 => if w = 1 then ((m2 S f t (sP S)).getD (0, 0)).1 else if w = 2 then ((m2 S f t (sP S)).getD (0, 0)).2 else if w = 3 then ((m1 (sUp S 9 ((m2 S f t (sP S)).getD (0, 0)).1 0 ((m2 S f t (sP S)).getD (0, 0)).2) f t (((m2 S f t (sP S)).getD (0, 0)).1 + 1) (sP S)).getD (0, 0)).1 else ((m1 (sUp S 9 ((m2 S f t (sP S)).getD (0, 0)).1 0 ((m2 S f t (sP S)).getD (0, 0)).2) f t (((m2 S f t (sP S)).getD (0, 0)).1 + 1) (sP S)).getD (0, 0)).2
  | _ => 0
set_option maxHeartbeats 2000000 in
theorem r_findMoved {S : SP} {σ : nh_S} (hR : RR σ S) (hW : WF S) {f t : Nat} (hf : f < sH S) (ht : t ≤ 999) {Q : Option Value → nh_S → Prop}
    (hQ : ∀ τ, RR τ S → (∀ n, kN S f t = some n → ∀ w, 1 ≤ w → w ≤ 2 * n → τ.2.1 24 w = nI (kV S f t w)) → Q (some (.int (ot (kN S f t)))) τ) : nh_E kX9_findMoved 0 [some (.ref 0), some (.int (nI f)), some (.int (nI t)), none, none, none, none, none] [] σ Q := by
  have h9 := hW.1.1
  have h12 := hW.1.2.1
  have m1_up : ∀ q x k, m1 S f t 0 q = some x → m1 S f t 0 (q + k) = some x := by
    intro q x k h
    induction k with
    | zero => exact h
    | succ k ih => rw [show q + (k + 1) = (q + k) + 1 from rfl, m1, ih]
  have m2_up : ∀ q x k, m2 S f t q = some x → m2 S f t (q + k) = some x := by
    intro q x k h
    induction k with
    | zero => exact h
    | succ k ih => rw [show q + (k + 1) = (q + k) + 1 from rfl, m2, ih]
  refine sg_X9_findMoved_0 _ _ ?_
  refine r_holds hR hW hf ht (fun τ t1 => ⟨_, rfl, ?_⟩)
  have hRt := hR.pr h12 t1
  refine ⟨fun c => ?_, fun c => ?_⟩
  · have hh0 : ¬ hld S f t = true := fun q => by rw [if_pos q] at c; exact absurd c (by decide)
    -- the second search
    have second : m1 S f t 0 (sP S) = none → ∀ τ, RR τ S → nh_E kX9_findMoved 13 [some (.ref 0), some (.int (nI f)), some (.int (nI t)), some (.int (nI 2)), none, none, none, none] [] τ Q := by
      intro hm0 τ hRt
      refine sg_X9_findMoved_13 _ _ _ (pk_lt 2 2 (fun c => by omega) (fun _ => ?_))
      refine nh_loop (α := nh_S) (fun p τ => nh_E kX9_findMoved 21 [some (.ref 0), some (.int (nI f)), some (.int (nI t)), some (.int (nI 2)), some (.int (nI p)), none, none, none] [] τ Q) (fun p τ => RR τ S ∧ m2 S f t p = none) (sP S) ?_ ?_ (sP S) 0 τ (by omega) ⟨hRt, rfl⟩
      · rintro τ ⟨hRt, hn⟩
        refine sg_X9_findMoved_21 _ _ _ _ (pk_le (sP S) (sP S) (fun _ => ?_) (fun c => by omega) hRt.1.2.1 rfl)
        refine sg_X9_findMoved_13 _ _ _ ⟨fun _ => ?_, fun q => absurd (show (2 : Int32) < nI 2 + 1 by decide) q⟩
        have ek : kN S f t = none := by unfold kN; rw [if_neg hh0, hm0, hn]; rfl
        have h := hQ τ hRt (fun n hn2 => by rw [ek] at hn2; cases hn2)
        rw [ek] at h
        exact h
      · rintro p τ hp ⟨hRt, hn⟩ ih
        have hkp := (hW.2.1.1 p hp).1
        refine sg_X9_findMoved_21 _ _ _ _ (pk_le (sP S) p (fun c => by omega) (fun c => ⟨pk_in p 78 (by omega), ?_⟩) hRt.1.2.1 rfl)
        rw [pk_cl p rfl (by omega), (hRt.2.1.1 p hp).1]
        refine nh_loop (α := nh_S) (fun h υ => nh_E kX9_findMoved 44 [some (.ref 0), some (.int (nI f)), some (.int (nI t)), some (.int (nI 2)), some (.int (nI p)), some (.int (nI (sKp S p))), some (.int (nI h)), none] [] υ Q) (fun h υ => RR υ S ∧ g2 S f t p h = none) (sH S) ?_ ?_ (sH S) 0 τ (by omega) ⟨hRt, rfl⟩
        · rintro υ ⟨hRu, hm⟩
          refine sg_X9_findMoved_44 _ _ _ _ _ _ (pk_le (sH S) (sH S) (fun _ => ?_) (fun c => by omega) hRu.1.1 rfl)
          rw [nI_1]
          refine ih υ ⟨hRu, ?_⟩
          rw [m2, hn]
          dsimp only
          rw [hm]
          rfl
        · rintro h υ hh ⟨hRu, hm⟩ ih2
          refine sg_X9_findMoved_44 _ _ _ _ _ _ (pk_le (sH S) h (fun c => by omega) (fun c => ⟨pk_in p 78 (by omega), ?_⟩) hRu.1.1 rfl)
          rw [pk_cl p rfl (by omega), nI_1]
          have hRk := RR_kp hRu h12 hp h
          have step : g2 S f t p (h + 1) = if h ≠ sKp S p ∧ (m1 (sUp S 9 p 0 h) f t (p + 1) (sP S)).isSome = true then some h else none := by rw [g2, hm]
          refine pk_eq h (sKp S p) (fun c5 => ?_) (fun c5 => ⟨fun _ => ?_, fun q => absurd q (by decide)⟩)
          · refine ih2 _ ⟨RR_bk hRk h12 hp, ?_⟩
            rw [step, if_neg (fun z => z.1 c5)]
          · refine r_movesTwo hRk (WF_kp hW hh) hf ht hp (fun ρ hRr r2 => ⟨_, rfl, pk_in p 78 (by omega), ?_⟩)
            refine ⟨fun c6 => ?_, fun c6 => ?_⟩
            · refine ih2 _ ⟨RR_bk hRr h12 hp, ?_⟩
              rw [step, if_neg (fun z => c6 (by
                have z2 : (m1 (sUp S 9 p 0 h) f t (p + 1) (sP (sUp S 9 p 0 h))).isSome = true := z.2
                rw [if_pos z2]; decide))]
            · have hhl : (m1 (sUp S 9 p 0 h) f t (p + 1) (sP S)).isSome = true := by
                cases z : (m1 (sUp S 9 p 0 h) f t (p + 1) (sP S)).isSome with
                | true => rfl
                | false =>
                  have z2 : (m1 (sUp S 9 p 0 h) f t (p + 1) (sP (sUp S 9 p 0 h))).isSome = false := z
                  rw [z2] at c6
                  exact absurd rfl c6
              have em : g2 S f t p (sH S) = some h := by
                have e1 : g2 S f t p (h + 1) = some h := by rw [step, if_pos ⟨c5, hhl⟩]
                have up : ∀ k, g2 S f t p (h + 1 + k) = some h := by
                  intro k
                  induction k with
                  | zero => exact e1
                  | succ k ihk => rw [show h + 1 + (k + 1) = (h + 1 + k) + 1 from rfl, g2, ihk]
                have := up (sH S - (h + 1))
                rw [show h + 1 + (sH S - (h + 1)) = sH S by omega] at this
                exact this
              have e2 : m2 S f t (sP S) = some (p, h) := by
                have e1 : m2 S f t (p + 1) = some (p, h) := by
                  rw [m2, hn]
                  dsimp only
                  rw [em]
                  rfl
                have := m2_up (p + 1) (p, h) (sP S - (p + 1)) e1
                rw [show p + 1 + (sP S - (p + 1)) = sP S by omega] at this
                exact this
              have ek : kN S f t = some 2 := by unfold kN; rw [if_neg hh0, hm0, e2]; rfl
              have hRb := RR_bk hRr h12 hp
              have h1 : pr (nh_wa ρ 1 p (nI (sKp S p))) (nh_wa (nh_wa (nh_wa ρ 1 p (nI (sKp S p))) 24 1 (nI p)) 24 2 (nI h)) := (pr.wa _ _ _ (by decide)).tr (pr.wa _ _ _ (by decide))
              obtain ⟨x, hx⟩ := Option.isSome_iff_exists.mp hhl
              obtain ⟨x1, x2⟩ := r2 x hx
              have hq2 := hQ _ (hRb.pr h12 h1) (fun n hn2 w hw1 hw2 => by
                rw [ek] at hn2
                cases hn2
                have kv1 : kV S f t 1 = p := by unfold kV; rw [ek, e2]; rfl
                have kv2 : kV S f t 2 = h := by unfold kV; rw [ek, e2]; rfl
                have kv3 : kV S f t 3 = x.1 := by
                  unfold kV; rw [ek, e2]
                  show ((m1 (sUp S 9 p 0 h) f t (p + 1) (sP S)).getD (0, 0)).1 = x.1
                  rw [hx]; rfl
                have kv4 : kV S f t 4 = x.2 := by
                  unfold kV; rw [ek, e2]
                  show ((m1 (sUp S 9 p 0 h) f t (p + 1) (sP S)).getD (0, 0)).2 = x.2
                  rw [hx]; rfl
                rcases (show w = 1 ∨ w = 2 ∨ w = 3 ∨ w = 4 by omega) with rfl | rfl | rfl | rfl
                · rw [kv1, bs_get, if_neg (by omega), bs_get, if_pos ⟨rfl, rfl⟩]
                · rw [kv2, bs_get, if_pos ⟨rfl, rfl⟩]
                · rw [kv3, bs_get, if_neg (by omega), bs_get, if_neg (by omega), wa_ne _ _ _ (show 24 ≠ 1 by decide)]
                  exact x1
                · rw [kv4, bs_get, if_neg (by omega), bs_get, if_neg (by omega), wa_ne _ _ _ (show 24 ≠ 1 by decide)]
                  exact x2)
              rw [ek] at hq2
              exact hq2
    refine sg_X9_findMoved_13 _ _ _ (pk_lt 2 1 (fun c => by omega) (fun _ => ?_))
    refine nh_loop (α := nh_S) (fun p τ => nh_E kX9_findMoved 21 [some (.ref 0), some (.int (nI f)), some (.int (nI t)), some (.int (nI 1)), some (.int (nI p)), none, none, none] [] τ Q) (fun p τ => RR τ S ∧ m1 S f t 0 p = none) (sP S) ?_ ?_ (sP S) 0 τ (by omega) ⟨hRt, rfl⟩
    · rintro τ ⟨hRt, hn⟩
      refine sg_X9_findMoved_21 _ _ _ _ (pk_le (sP S) (sP S) (fun _ => ?_) (fun c => by omega) hRt.1.2.1 rfl)
      exact second hn τ hRt
    · rintro p τ hp ⟨hRt, hn⟩ ih
      have hkp := (hW.2.1.1 p hp).1
      refine sg_X9_findMoved_21 _ _ _ _ (pk_le (sP S) p (fun c => by omega) (fun c => ⟨pk_in p 78 (by omega), ?_⟩) hRt.1.2.1 rfl)
      rw [pk_cl p rfl (by omega), (hRt.2.1.1 p hp).1]
      refine nh_loop (α := nh_S) (fun h υ => nh_E kX9_findMoved 44 [some (.ref 0), some (.int (nI f)), some (.int (nI t)), some (.int (nI 1)), some (.int (nI p)), some (.int (nI (sKp S p))), some (.int (nI h)), none] [] υ Q) (fun h υ => RR υ S ∧ mh S f t p h = none) (sH S) ?_ ?_ (sH S) 0 τ (by omega) ⟨hRt, rfl⟩
      · rintro υ ⟨hRu, hm⟩
        refine sg_X9_findMoved_44 _ _ _ _ _ _ (pk_le (sH S) (sH S) (fun _ => ?_) (fun c => by omega) hRu.1.1 rfl)
        rw [nI_1]
        refine ih υ ⟨hRu, ?_⟩
        rw [m1, hn]
        dsimp only
        rw [if_pos (Nat.zero_le _), hm]
        rfl
      · rintro h υ hh ⟨hRu, hm⟩ ih2
        refine sg_X9_findMoved_44 _ _ _ _ _ _ (pk_le (sH S) h (fun c => by omega) (fun c => ⟨pk_in p 78 (by omega), ?_⟩) hRu.1.1 rfl)
        rw [pk_cl p rfl (by omega), nI_1]
        have hRk := RR_kp hRu h12 hp h
        have step : mh S f t p (h + 1) = if h ≠ sKp S p ∧ hld (sUp S 9 p 0 h) f t = true then some h else none := by rw [mh, hm]
        refine pk_eq h (sKp S p) (fun c5 => ?_) (fun c5 => ⟨fun q => absurd rfl q, fun _ => ?_⟩)
        · refine ih2 _ ⟨RR_bk hRk h12 hp, ?_⟩
          rw [step, if_neg (fun z => z.1 c5)]
        · refine r_holds hRk (WF_kp hW hh) hf ht (fun ρ r1 => ⟨_, rfl, pk_in p 78 (by omega), ?_⟩)
          have hRr := hRk.pr h12 r1
          refine ⟨fun c6 => ?_, fun c6 => ?_⟩
          · refine ih2 _ ⟨RR_bk hRr h12 hp, ?_⟩
            rw [step, if_neg (fun z => c6 (by rw [if_pos z.2]; decide))]
          · have hhl : hld (sUp S 9 p 0 h) f t = true := by
              cases z : hld (sUp S 9 p 0 h) f t with
              | true => rfl
              | false => rw [z] at c6; exact absurd rfl c6
            have em : mh S f t p (sH S) = some h := by
              have e1 : mh S f t p (h + 1) = some h := by rw [step, if_pos ⟨c5, hhl⟩]
              have up : ∀ k, mh S f t p (h + 1 + k) = some h := by
                intro k
                induction k with
                | zero => exact e1
                | succ k ihk => rw [show h + 1 + (k + 1) = (h + 1 + k) + 1 from rfl, mh, ihk]
              have := up (sH S - (h + 1))
              rw [show h + 1 + (sH S - (h + 1)) = sH S by omega] at this
              exact this
            have e2 : m1 S f t 0 (sP S) = some (p, h) := by
              have e1 : m1 S f t 0 (p + 1) = some (p, h) := by
                rw [m1, hn]
                dsimp only
                rw [if_pos (Nat.zero_le _), em]
                rfl
              have := m1_up (p + 1) (p, h) (sP S - (p + 1)) e1
              rw [show p + 1 + (sP S - (p + 1)) = sP S by omega] at this
              exact this
            have ek : kN S f t = some 1 := by unfold kN; rw [if_neg hh0, e2]; rfl
            have hRb := RR_bk hRr h12 hp
            have h1 : pr (nh_wa ρ 1 p (nI (sKp S p))) (nh_wa (nh_wa (nh_wa ρ 1 p (nI (sKp S p))) 24 1 (nI p)) 24 2 (nI h)) := (pr.wa _ _ _ (by decide)).tr (pr.wa _ _ _ (by decide))
            have hq2 := hQ _ (hRb.pr h12 h1) (fun n hn2 w hw1 hw2 => by
              rw [ek] at hn2
              cases hn2
              have kv1 : kV S f t 1 = p := by unfold kV; rw [ek, e2]; rfl
              have kv2 : kV S f t 2 = h := by unfold kV; rw [ek, e2]; rfl
              rcases (show w = 1 ∨ w = 2 by omega) with rfl | rfl
              · rw [kv1, bs_get, if_neg (by omega), bs_get, if_pos ⟨rfl, rfl⟩]
              · rw [kv2, bs_get, if_pos ⟨rfl, rfl⟩])
            rw [ek] at hq2
            exact hq2
  · have hh1 : hld S f t = true := by
      cases z : hld S f t with
      | true => rfl
      | false => rw [z] at c; exact absurd rfl c
    have ek : kN S f t = some 0 := by unfold kN; rw [if_pos hh1]
    have h := hQ τ hRt (fun n hn w hw1 hw2 => by rw [ek] at hn; cases hn; omega)
    rw [ek] at h
    exact h
noncomputable def aKept (S : SP) (x y z : Int32) : Int32 := match ix x (sH S) with
  | none => -1000001
  | some f => match ix y 1000, ix z 5 with
    | some t, some w => if w = 0 then ot (kN S f t) else if w ≤ 2 * (kN S f t).getD 0 then nI (kV S f t w) else -1
    | _, _ => -1000002
theorem kN_le (S : SP) (f t n : Nat) (h : kN S f t = some n) : n ≤ 2 := by
  unfold kN at h
  split at h
  · cases h; omega
  · split at h
    · cases h; omega
    · split at h
      · cases h; omega
      · cases h
theorem r_kept {S : SP} {σ : nh_S} (hR : RR σ S) (hW : WF S) (x y z : Int32) {Q : Option Value → nh_S → Prop} (hQ : ∀ τ, RR τ S → Q (some (.int (aKept S x y z))) τ) : nh_E kX9_kept 0 [some (.ref 0), some (.int x), some (.int y), some (.int z), none] [] σ Q := by
  have h9 := hW.1.1
  unfold aKept at hQ
  refine sg_X9_kept_0 x y z ?_
  rw [hR.1.1, ix_ref (by omega), show (999 : Int32) = nI 999 from rfl, ix_lit (by omega), show (4 : Int32) = nI 4 from rfl, ix_lit (by omega)]
  rcases ix_cases x (n := sH S) (by omega) with ⟨f, hf, rfl, e⟩ | ⟨e, hx⟩
  · refine ⟨fun _ => ?_, fun c => absurd ⟨f, hf, rfl⟩ c⟩
    rcases ix_cases y (n := 1000) (by omega) with ⟨t, ht, rfl, e2⟩ | ⟨e2, hy⟩
    · refine ⟨fun c => absurd ⟨t, by omega, rfl⟩ c, fun _ => ?_⟩
      rcases ix_cases z (n := 5) (by omega) with ⟨w, hw, rfl, e3⟩ | ⟨e3, hz⟩
      · rw [e, e2, e3] at hQ
        dsimp only at hQ
        refine ⟨fun _ => ?_, fun c => absurd ⟨w, by omega, rfl⟩ c⟩
        refine r_findMoved hR hW hf (by omega) (fun τ hRt t2 => ⟨_, rfl, ?_⟩)
        have h := hQ τ hRt
        by_cases e5 : w = 0
        · rw [if_pos e5] at h
          subst e5
          refine ⟨fun c => absurd rfl c, ?_⟩
          rw [if_pos (show nI 0 = 0 from rfl)]
          exact h
        · rw [if_neg e5] at h
          refine ⟨fun _ _ => pk_in w 5 hw, ?_⟩
          rw [if_neg (nI_ne0 (by omega) (by omega)), pk_cl w rfl (by omega)]
          cases hk : kN S f t with
          | none =>
            rw [hk] at h
            dsimp only [Option.getD] at h
            rw [if_neg (by omega)] at h
            rw [if_pos (show (2 : Int32) * ot none < nI w by
              show (-2 : Int32) < nI w
              rw [Int32.lt_iff_toInt_lt, nI_toInt (by omega)]
              show (-2 : Int) < _
              omega)]
            exact h
          | some n =>
            have hn := kN_le S f t n hk
            rw [hk] at h
            dsimp only [Option.getD] at h
            have e2n : (2 : Int32) * ot (some n) = nI (2 * n) := by rw [ot_some, show (2 : Int32) = nI 2 from rfl, pk_mul]
            rw [e2n]
            by_cases e6 : w ≤ 2 * n
            · rw [if_pos e6] at h
              rw [if_neg (by rw [nI_ltI (by omega) (by omega)]; omega), t2 n hk w (by omega) e6]
              exact h
            · rw [if_neg e6] at h
              rw [if_pos (by rw [nI_ltI (by omega) (by omega)]; omega)]
              exact h
      · rw [e, e2, e3] at hQ
        exact ⟨fun ⟨h, hh, q⟩ => absurd q (hz h (by omega)), fun _ => hQ _ hR⟩
    · rw [e, e2] at hQ
      exact ⟨fun _ => hQ _ hR, fun ⟨h, hh, q⟩ => absurd q (hy h (by omega))⟩
  · rw [e] at hQ
    exact ⟨fun ⟨h, hh, q⟩ => absurd q (hx h hh), fun _ => hQ _ hR⟩
