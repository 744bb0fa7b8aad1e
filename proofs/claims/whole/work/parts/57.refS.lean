/-! THE REFERENCE: plan, feed -/
def RW (σ : nh_S) (P : SP) : Prop := σ.1 0 12 = nI (sPn P) ∧ ∀ i, i < sPn P → σ.2.1 10 (20 + i) = nI (sPa P i) ∧ σ.2.1 11 (20 + i) = nI (sPb P i)
def WW (H : Nat) (P : SP) : Prop := sPn P ≤ 20 ∧ (∀ i, i < sPn P → sPa P i < H ∧ sPb P i < H ∧ sPa P i ≠ sPb P i) ∧ ∀ i j, i < sPn P → j < sPn P → sPb P i = sPb P j → i = j
theorem WW_0 (H : Nat) : WW H P0 := ⟨by decide, fun i hi => absurd hi (Nat.not_lt_zero _), fun i j hi => absurd hi (Nat.not_lt_zero _)⟩
theorem RW.fr {js : List Nat} {σ τ : nh_S} {P : SP} (h : RW σ P) (g : frI js σ τ) (hj : 12 ∉ js) : RW τ P := ⟨by rw [g.2 12 hj]; exact h.1, fun i hi => by rw [g.1]; exact h.2 i hi⟩
theorem nWake_n (P : SP) (x y : Nat) : sPn (nWake P x y) = sPn P + 1 := by unfold nWake sPn; rw [sUp_at, if_pos ⟨rfl, rfl⟩]
theorem nWake_a (P : SP) (x y i : Nat) : sPa (nWake P x y) i = if i = sPn P then x else sPa P i := by unfold nWake sPa; rw [sUp_ne _ (by omega), sUp_ne _ (by omega), sUp_at]; simp
theorem nWake_b (P : SP) (x y i : Nat) : sPb (nWake P x y) i = if i = sPn P then y else sPb P i := by unfold nWake sPb; rw [sUp_ne _ (by omega), sUp_at, sUp_ne _ (by omega)]; simp
theorem nWake_WW {H : Nat} {P : SP} {x y : Nat} (hW : WW H P) (hx : x < H) (hy : y < H) (hxy : x ≠ y) (hn : ¬ 20 ≤ sPn P) (hw : ¬ wkn P y (sPn P) = true) : WW H (nWake P x y) := by
  obtain ⟨w1, w2, w3⟩ := hW
  refine ⟨by rw [nWake_n]; omega, fun i hi => ?_, fun i j hi hj e => ?_⟩
  · rw [nWake_n] at hi
    rw [nWake_a, nWake_b]
    by_cases c : i = sPn P
    · rw [if_pos c, if_pos c]; exact ⟨hx, hy, hxy⟩
    · rw [if_neg c, if_neg c]; exact w2 i (by omega)
  · rw [nWake_n] at hi hj
    rw [nWake_b, nWake_b] at e
    by_cases c : i = sPn P
    · by_cases c2 : j = sPn P
      · omega
      · rw [if_pos c, if_neg c2] at e
        exact absurd (wkn_iff.mpr ⟨j, by omega, e.symm⟩) hw
    · by_cases c2 : j = sPn P
      · rw [if_neg c, if_pos c2] at e
        exact absurd (wkn_iff.mpr ⟨i, by omega, e⟩) hw
      · rw [if_neg c, if_neg c2] at e
        exact w3 i j (by omega) (by omega) e
def nPln (S P : SP) : SP := fun t i j => if t ∈ [16, 17, 18] then P t i j else if t = 19 ∨ t = 21 then 0 else S t i j
def nPlan (S : SP) : SP := if sTn S ≤ 200 then (match tkP (sTx S) (sTn S) (sH S) 600 P0 0 with
  | .error z => nBad S z
  | .ok y => nPln S y.1) else S
def aPlan (S : SP) : Int32 := if sTn S ≤ 200 then (match tkP (sTx S) (sTn S) (sH S) 600 P0 0 with
  | .error z => -10 - nI z.1
  | .ok y => nI (sPn y.1)) else -1000003
theorem r_plan_bad {τ : nh_S} {z : Nat × Nat} (hb : bdy τ z) {Q : Option Value → nh_S → Prop} (hQ : Q (some (.int (-10 - nI z.1))) (nh_si τ 0 16 0)) : nh_E kX9_plan 22 [some (.ref 0), none, none, none, none] [] τ Q := by
  refine sg_X9_plan_22 ⟨fun _ => ⟨fun q => absurd q hb.gt, fun _ => ?_⟩, fun q => absurd q hb.ne⟩
  rw [hb.1]
  exact hQ
theorem r_plan_f {τ : nh_S} {z : Nat × Nat} {c : Nat} (hb : bdy τ z) (hc : c ≤ 20) (h12 : τ.1 0 12 = nI c) {x1 x2 : Int32} {Q : Option Value → nh_S → Prop} (hQ : Q (some (.int (-10 - nI z.1))) (nh_si τ 0 16 0)) : ∀ (d k : Nat) (x3 : Int32), k + d = c → nh_E kX9_plan 135 [some (.ref 0), some (.int x1), some (.int x2), some (.int x3), some (.int (nI (20 + k)))] [] τ Q
  | 0, k, x3, hk => by
    have e20 : (20 : Int32) + τ.1 0 12 = nI (20 + c) := by rw [h12]; exact nI_add 20 c
    refine sg_X9_plan_135 _ _ _ _ ?_
    rw [e20]
    refine pk_le (20 + c) (20 + k) (fun _ => ⟨fun _ => ?_, fun q => absurd q hb.ne⟩) (fun c => by omega)
    exact r_takeEnd_f hb ⟨rfl, r_plan_bad hb hQ⟩
  | d + 1, k, x3, hk => by
    have e20 : (20 : Int32) + τ.1 0 12 = nI (20 + c) := by rw [h12]; exact nI_add 20 c
    refine sg_X9_plan_135 _ _ _ _ ?_
    rw [e20]
    refine pk_le (20 + c) (20 + k) (fun c => by omega) (fun _ => ⟨fun _ => pk_in (20 + k) 40 (by omega), ?_⟩)
    rw [nI_1]
    exact r_plan_f hb hc h12 hQ d (k + 1) _ (by omega)
theorem RR_plan {σ τ : nh_S} {S P : SP} (hR : RR σ S) (hW : WF S) (hf : frT σ τ) (hs : snd τ) {υ : nh_S} (h1 : υ.1 0 11 = nI (sPn P)) (h2 : ∀ i, i < sPn P → υ.2.1 10 i = nI (sPa P i) ∧ υ.2.1 11 i = nI (sPb P i)) (h3 : υ.1 0 16 = 0) (h4 : ∀ j, j ∉ [11, 16] → υ.1 0 j = τ.1 0 j) (h5 : ∀ k, k ≠ 10 → k ≠ 11 → υ.2.1 k = τ.2.1 k) : RR υ (nPln S P) := by
  obtain ⟨g1, g2, g3, g4, g5⟩ := RR_T hR hW hf
  have t : ∀ x, x ∉ [16, 17, 18, 19, 21] → nPln S P x = S x := fun x hx => by funext i j; simp at hx; unfold nPln; rw [if_neg (by simp; omega), if_neg (by omega)]
  have tp : ∀ x, x ∈ [16, 17, 18] → nPln S P x = P x := fun x hx => by funext i j; unfold nPln; rw [if_pos hx]
  have t0 : ∀ i j, nPln S P 19 i j = 0 ∧ nPln S P 21 i j = 0 := fun i j => by unfold nPln; exact ⟨by rw [if_neg (by decide), if_pos (by decide)], by rw [if_neg (by decide), if_pos (by decide)]⟩
  refine ⟨RRc_tr g1 (h5 3 (by omega) (by omega)) (h5 6 (by omega) (by omega)) (h5 7 (by omega) (by omega)) (h5 8 (by omega) (by omega)) (h5 9 (by omega) (by omega)) (h5 14 (by omega) (by omega)) (fun x hx => t x (by simp; omega)), RRm_tr g2 (fun i _ => by rw [h5 1 (by omega) (by omega)]) hW.1.2.1 (t 1 (by decide)) (t 9 (by decide)) (t 10 (by decide)) (t 11 (by decide)) (t 12 (by decide)), ⟨?_, fun i hi => ?_⟩, RRx_tr g4 (h4 14 (by decide)) (h4 37 (by decide)) (h5 12 (by omega) (by omega)) (h5 26 (by omega) (by omega)) (t 1 (by decide)) (t 13 (by decide)) (t 14 (by decide)) (t 15 (by decide)), RRi_tr g5 (fun i _ => by rw [h5 2 (by omega) (by omega)]) (fun i _ => by rw [h5 1 (by omega) (by omega)]) (t 1 (by decide)) (t 22 (by decide)) (t 23 (by decide)) (t 24 (by decide)) (t 25 (by decide)) (t 26 (by decide)), ?_, fun i hi => ?_, ?_⟩
  · rw [h1]; unfold sPn; rw [tp 16 (by decide)]
  · have hi2 : i < sPn P := by unfold sPn at hi; rw [tp 16 (by decide)] at hi; exact hi
    unfold sPa sPb
    rw [tp 17 (by decide), tp 18 (by decide)]
    exact h2 i hi2
  · rw [h3]; unfold sTn; rw [(t0 0 0).1]; rfl
  · unfold sTn at hi; rw [(t0 0 0).1] at hi; omega
  · rw [h4 21 (by decide), hs.2]
    unfold sFa
    rw [(t0 0 0).2, if_pos rfl]
    rfl
set_option maxHeartbeats 1000000 in
theorem r_pln_loop {σ : nh_S} {S : SP} (hR : RR σ S) (hW : WF S) {Q : Option Value → nh_S → Prop}
    (hQb : ∀ τ z, frT σ τ → bdy τ z → tkP (sTx S) (sTn S) (sH S) 600 P0 0 = .error z → Q (some (.int (-10 - nI z.1))) (nh_si τ 0 16 0))
    (hQo : ∀ τ y, frT σ τ → snd τ → RW τ y.1 → WW (sH S) y.1 → tkP (sTx S) (sTn S) (sH S) 600 P0 0 = .ok y → nh_E kX9_plan 267 [some (.ref 0), some (.int 0), none, none, none] [] (nh_si τ 0 16 0) Q) :
    ∀ (fu a : Nat) (P : SP) (τ : nh_S), frT σ τ → τ.1 0 17 = nI a → a ≤ sTn S → sTn S ≤ a + fu → snd τ → RW τ P → WW (sH S) P → tkP (sTx S) (sTn S) (sH S) fu P a = tkP (sTx S) (sTn S) (sH S) 600 P0 0 → nh_E kX9_plan 22 [some (.ref 0), none, none, none, none] [] τ Q := by
  have ht := rt_of hR hW
  have h9 := hW.1.1
  have fin : ∀ (a : Nat) (P : SP) (τ : nh_S), frT σ τ → τ.1 0 17 = nI a → a ≤ sTn S → snd τ → RW τ P → WW (sH S) P → ¬ sk (sTx S) (sTn S) a < sTn S → (∀ e, tkP (sTx S) (sTn S) (sH S) 600 P0 0 = Except.ok (P, e) ∨ e ≠ sk (sTx S) (sTn S) a) → nh_E kX9_plan 22 [some (.ref 0), none, none, none, none] [] τ Q := by
    intro a P τ hf h17 ha hs hq hw hn htk
    refine sg_X9_plan_22 ⟨fun q => absurd hs.1 q, fun _ => ?_⟩
    refine r_here (sTn S - a) a τ (ht.T hf) h17 (by omega) (fun υ u1 u2 => ⟨_, rfl, fun _ => ?_, fun q => ?_⟩)
    · have hsu := hs.fr u1 (by decide) (by decide)
      refine ⟨fun _ => ?_, fun q => absurd (by rw [hsu.1]; decide) q⟩
      rcases htk (sk (sTx S) (sTn S) a) with z | z
      · exact hQo υ (P, sk (sTx S) (sTn S) a) (hf.tr (u1.T (by decide))) hsu (hq.fr u1 (by decide)) hw z
      · exact absurd rfl z
    · rw [if_neg hn] at q
      exact absurd (by decide) q
  intro fu
  induction fu with
  | zero =>
    intro a P τ hf h17 ha hfu hs hq hw htk
    have e : a = sTn S := by omega
    have es : sk (sTx S) (sTn S) a = a := rx_at (fun q => by omega)
    refine fin a P τ hf h17 ha hs hq hw (by rw [es]; omega) (fun e2 => ?_)
    by_cases c : e2 = sk (sTx S) (sTn S) a
    · left
      rw [c, es]
      exact htk.symm
    · exact Or.inr c
  | succ fu ih =>
    intro a P τ hf h17 ha hfu hs hq hw htk
    rw [tkP] at htk
    have h20 := hw.1
    by_cases hn : sk (sTx S) (sTn S) a < sTn S
    · rw [if_pos hn] at htk
      have hs1 := sk_ge (sTx S) (sTn S) a
      have hll := lte_le (T := sTx S) (show sk (sTx S) (sTn S) a ≤ sTn S by omega)
      have hc := tkW_fine (T := sTx S) (H := sH S) (P := P) ha
      have hss := sk_sk (sTx S) (sTn S) a
      refine sg_X9_plan_22 ⟨fun q => absurd hs.1 q, fun _ => ?_⟩
      refine r_here (sTn S - a) a τ (ht.T hf) h17 (by omega) (fun υ u1 u2 => ⟨_, rfl, fun q => ?_, fun _ => ?_⟩)
      · rw [if_pos hn] at q
        exact absurd q (nI_pos (by have := (ht.2.2 _ hn).2; omega))
      have f1 : frT σ υ := hf.tr (u1.T (by decide))
      have s1 := hs.fr u1 (by decide) (by decide)
      have R1 := hq.fr u1 (by decide)
      refine r_takeWord (a := sk (sTx S) (sTn S) a) (ht.T f1) u2 (by omega) (fun ρ r1 r2 r3 r4 => ⟨rfl, ?_⟩)
      have f2 : frT σ ρ := f1.tr (r1.T (by decide))
      have s2 := s1.fr r1 (by decide) (by decide)
      have R2 := R1.fr r1 (by decide)
      refine r_isWord (a := sk (sTx S) (sTn S) a) (w := [119, 97, 107, 101]) (ht.T f2) (by omega) r3 r4 rfl (by decide) (by decide) ⟨_, rfl, ?_⟩
      rw [hss] at r2 r3
      have ewd : wd (sTx S) (sTn S) (sk (sTx S) (sTn S) a) [119, 97, 107, 101] = wd (sTx S) (sTn S) a [119, 97, 107, 101] := by unfold wd; rw [hss]
      rw [r3]
      unfold tkW at htk hc
      refine r_want s2.1 (by decide) (fun w1 => ⟨_, rfl, fun q => absurd q (by decide), fun _ => ?_⟩) (fun w1 => ⟨_, rfl, fun _ => ?_, fun q => absurd rfl q⟩)
      · rw [ewd] at w1
        rw [if_pos w1] at htk hc
        rw [r3, R2.1]
        have hcc : ¬ (20 : Int32) ≤ nI (sPn P) ↔ ¬ 20 ≤ sPn P := by rw [show (20 : Int32) = nI 20 from rfl, nI_leI (by omega) (by omega)]
        refine r_want s2.1 (by decide) (fun w2 => ⟨_, rfl, fun q => absurd q (by decide), fun _ => ?_⟩) (fun w2 => ⟨_, rfl, fun _ => ?_, fun q => absurd rfl q⟩)
        · have w2 := hcc.mp w2
          rw [if_neg w2] at htk hc
          have hH : ρ.2.1 9 0 = nI (sH S) := (RR_T hR hW f2).1.1
          rw [hH]
          refine r_takeNumber (lo := 0) (hi := sH S) (ht.T f2) r2 hll s2.1 (by omega) (by omega) rfl (fun z hz κ r k1 k2 => ⟨_, rfl, ?_⟩) (fun x e1 hx κ k1 k2 k3 => ⟨_, rfl, ?_⟩)
          · rw [hz, rb_bad] at htk
            refine r_takeNumber_f k2 ⟨_, rfl, ?_⟩
            exact r_plan_f k2 h20 (by rw [k1.2 12 (by decide)]; exact R2.1) (hQb κ z (f2.tr (k1.T (by decide))) k2 htk.symm) (sPn P) 0 _ (by omega)
          · rw [hx, rb_ok] at htk hc
            have he1 := (show fine (sTn S) (lte (sTx S) (sTn S) (sk (sTx S) (sTn S) a)) (tkN (sTx S) (sTn S) 0 (sH S) (lte (sTx S) (sTn S) (sk (sTx S) (sTn S) a))) from tkN_fine hll)
            rw [hx] at he1
            have hxk := tkN_ok hx
            have f3 : frT σ κ := f2.tr (k1.T (by decide))
            have s3 := s2.fr k1 (by decide) (by decide)
            have R3 := R2.fr k1 (by decide)
            have hH3 : κ.2.1 9 0 = nI (sH S) := (RR_T hR hW f3).1.1
            try dsimp only
            rw [hH3]
            refine r_takeNumber (lo := 0) (hi := sH S) (ht.T f3) k2 he1.2 s3.1 (by omega) (by omega) rfl (fun z hz μ r m1 m2 => ⟨_, rfl, ?_⟩) (fun y e2 hy μ m1 m2 m3 => ⟨_, rfl, ?_⟩)
            · rw [hz, rb_bad] at htk
              exact r_plan_f m2 h20 (by rw [m1.2 12 (by decide)]; exact R3.1) (hQb μ z (f3.tr (m1.T (by decide))) m2 htk.symm) (sPn P) 0 _ (by omega)
            · rw [hy, rb_ok] at htk hc
              have he2 := (show fine (sTn S) e1 (tkN (sTx S) (sTn S) 0 (sH S) e1) from tkN_fine he1.2)
              rw [hy] at he2
              have hyk := tkN_ok hy
              have f4 : frT σ μ := f3.tr (m1.T (by decide))
              have s4 := s3.fr m1 (by decide) (by decide)
              have R4 := R3.fr m1 (by decide)
              have e20 : (20 : Int32) + μ.1 0 12 = nI (20 + sPn P) := by rw [R4.1]; exact nI_add 20 _
              have loop : ∀ (d k : Nat) (b : Bool), k + d = sPn P → (b = true ↔ (x.1 = y.1 ∨ wkn P y.1 k = true)) → nh_E kX9_plan 135 [some (.ref 0), some (.int (nI x.1)), some (.int (nI y.1)), some (.int (if b = true then 1 else 0)), some (.int (nI (20 + k)))] [] μ Q := by
                intro d
                induction d with
                | zero =>
                  intro k b hk hb
                  have ek : k = sPn P := by omega
                  subst ek
                  refine sg_X9_plan_135 _ _ _ _ ?_
                  rw [e20, m3]
                  refine pk_le (20 + sPn P) (20 + sPn P) (fun _ => ⟨fun q => absurd s4.1 q, fun _ => ?_⟩) (fun c => by omega)
                  have hbb : ((if b = true then (1 : Int32) else 0) = 0) ↔ ¬ (x.1 = y.1 ∨ wkn P y.1 (sPn P) = true) := by
                    rw [← hb]
                    cases b <;> simp
                  refine r_want s4.1 (by decide) (fun w3 => ⟨_, rfl, fun q => absurd q (by decide), fun _ => ?_⟩) (fun w3 => ⟨_, rfl, fun _ => ?_, fun q => absurd rfl q⟩)
                  · have w3 := hbb.mp w3
                    rw [if_neg w3] at htk hc
                    rw [e20, pk_cl (20 + sPn P) rfl (by omega), R4.1, nI_1]
                    refine ⟨pk_in (20 + sPn P) 40 (by omega), ?_⟩
                    have f5 : frT σ (nh_si (nh_wa (nh_wa μ 10 (20 + sPn P) (nI x.1)) 11 (20 + sPn P) (nI y.1)) 0 12 (nI (sPn P + 1))) := (((f4.wa _ (by unfold scr; omega)).wa _ (by unfold scr; omega)).si _ (by decide))
                    have s5 : snd (nh_si (nh_wa (nh_wa μ 10 (20 + sPn P) (nI x.1)) 11 (20 + sPn P) (nI y.1)) 0 12 (nI (sPn P + 1))) := ((s4.wa _ _ _).wa _ _ _).si _ (by decide) (by decide)
                    have R5 : RW (nh_si (nh_wa (nh_wa μ 10 (20 + sPn P) (nI x.1)) 11 (20 + sPn P) (nI y.1)) 0 12 (nI (sPn P + 1))) (nWake P x.1 y.1) := by
                      refine ⟨by rw [bs_geti, if_pos ⟨rfl, rfl⟩, nWake_n], fun i hi => ?_⟩
                      rw [nWake_n] at hi
                      rw [nWake_a, nWake_b]
                      show (nh_wa (nh_wa μ 10 (20 + sPn P) (nI x.1)) 11 (20 + sPn P) (nI y.1)).2.1 10 (20 + i) = _ ∧ (nh_wa (nh_wa μ 10 (20 + sPn P) (nI x.1)) 11 (20 + sPn P) (nI y.1)).2.1 11 (20 + i) = _
                      by_cases c : i = sPn P
                      · rw [if_pos c, if_pos c]
                        exact ⟨by rw [bs_get, if_neg (by omega), bs_get, if_pos (by omega)], by rw [bs_get, if_pos (by omega)]⟩
                      · rw [if_neg c, if_neg c]
                        have := R4.2 i (by omega)
                        exact ⟨by rw [bs_get, if_neg (by omega), bs_get, if_neg (by omega)]; exact this.1, by rw [bs_get, if_neg (by omega), bs_get, if_neg (by omega)]; exact this.2⟩
                    have p5 : (nh_si (nh_wa (nh_wa μ 10 (20 + sPn P) (nI x.1)) 11 (20 + sPn P) (nI y.1)) 0 12 (nI (sPn P + 1))).1 0 17 = nI e2 := by rw [bs_geti, if_neg (by omega)]; exact m2
                    refine r_takeEnd (ht.T f5) p5 he2.2 s5.1 (fun z hz κ2 q1 q2 => ⟨rfl, ?_⟩) (fun u e3 hz κ2 q1 q2 => ⟨rfl, ?_⟩)
                    · rw [hz, rb_bad] at htk
                      exact r_plan_bad q2 (hQb κ2 z (f5.tr (q1.T (by decide))) q2 htk.symm)
                    · rw [hz, rb_ok] at htk hc
                      rw [rb_ok] at htk
                      exact ih e3 (nWake P x.1 y.1) κ2 (f5.tr (q1.T (by decide))) q2 hc.2 (by have := hc.1; dsimp only at this; omega) (s5.fr q1 (by decide) (by decide)) (R5.fr q1 (by decide)) (nWake_WW hw hxk.2.1 hyk.2.1 (fun q => w3 (Or.inl q)) w2 (fun q => w3 (Or.inr q))) htk
                  · have w3 : x.1 = y.1 ∨ wkn P y.1 (sPn P) = true := Classical.byContradiction (fun q => w3 (hbb.mpr q))
                    rw [if_pos w3] at htk
                    have hb : bdy (nh_si (nh_si μ 0 20 4) 0 21 (nI y.2)) (4, y.2) := bdy.mk' (c := 4) (by omega) (by omega)
                    exact r_takeEnd_f hb ⟨rfl, r_plan_bad hb (hQb _ (4, y.2) ((f4.si _ (by decide)).si _ (by decide)) hb htk.symm)⟩
                | succ d ihd =>
                  intro k b hk hb
                  refine sg_X9_plan_135 _ _ _ _ ?_
                  rw [e20]
                  refine pk_le (20 + sPn P) (20 + k) (fun c => by omega) (fun _ => ⟨fun _ => pk_in (20 + k) 40 (by omega), ?_⟩)
                  rw [nI_1, pk_cl (20 + k) rfl (by omega), (R4.2 k (by omega)).2]
                  have hwk := (hw.2.1 k (by omega)).2.1
                  have h := ihd (k + 1) (b || decide (sPb P k = y.1)) (by omega) (by
                    rw [Bool.or_eq_true, decide_eq_true_iff, hb, wkn, Bool.or_eq_true, decide_eq_true_iff, or_assoc])
                  have e : (if ¬ ((if b = true then (1 : Int32) else 0) = 0) ∨ nI (sPb P k) = nI y.1 then (1 : Int32) else 0) = if (b || decide (sPb P k = y.1)) = true then 1 else 0 := by
                    have hq := nI_eq (a := sPb P k) (b := y.1) (by omega) (by omega)
                    cases b <;> simp [hq]
                  rw [e]
                  exact h
              have h := loop (sPn P) 0 (decide (x.1 = y.1)) (by omega) (by rw [decide_eq_true_iff, wkn]; simp)
              have e : (if nI x.1 = nI y.1 then (1 : Int32) else 0) = if decide (x.1 = y.1) = true then 1 else 0 := by
                have hq := nI_eq (a := x.1) (b := y.1) (by omega) (by omega)
                simp [hq]
              rw [e]
              exact h
        · have w2 : 20 ≤ sPn P := Classical.byContradiction (fun q => w2 (hcc.mpr q))
          rw [if_pos w2] at htk
          have hb : bdy (nh_si (nh_si ρ 0 20 3) 0 21 (nI (sk (sTx S) (sTn S) a))) (3, sk (sTx S) (sTn S) a) := bdy.mk' (c := 3) (by omega) (by omega)
          exact r_takeEnd_f hb ⟨rfl, r_plan_bad hb (hQb _ _ ((f2.si _ (by decide)).si _ (by decide)) hb htk.symm)⟩
      · rw [ewd] at w1
        rw [if_neg w1] at htk
        have hb : bdy (nh_si (nh_si ρ 0 20 1) 0 21 (nI (sk (sTx S) (sTn S) a))) (1, sk (sTx S) (sTn S) a) := bdy.mk' (c := 1) (by omega) (by omega)
        exact r_takeEnd_f hb ⟨rfl, r_plan_bad hb (hQb _ _ ((f2.si _ (by decide)).si _ (by decide)) hb htk.symm)⟩
    · rw [if_neg hn] at htk
      refine fin a P τ hf h17 ha hs hq hw hn (fun e2 => ?_)
      by_cases c : e2 = sk (sTx S) (sTn S) a
      · left
        rw [c]
        exact htk.symm
      · exact Or.inr c
theorem r_plan {S : SP} {σ : nh_S} (hR : RR σ S) (hW : WF S) {Q : Option Value → nh_S → Prop} (hQ : ∀ τ, RR τ (nPlan S) → Q (some (.int (aPlan S))) τ) : nh_E kX9_plan 0 [some (.ref 0), none, none, none, none] [] σ Q := by
  unfold nPlan aPlan at hQ
  have hn := hW.2.2.2.2.2.1
  refine sg_X9_plan_0 (pk_le (sTn S) 200 (fun c => ?_) (fun c => ?_) hR.2.2.2.2.2.1 rfl)
  · rw [if_pos c, if_pos c] at hQ
    refine r_beginReading (fun τ t1 t2 t3 => ⟨rfl, ?_⟩)
    have f0 : frT σ (nh_si τ 0 12 0) := (t1.T (by decide)).si _ (by decide)
    refine r_pln_loop hR hW (fun υ z u1 u2 hz => ?_) (fun υ y u1 u2 u3 u4 hy => ?_) 600 0 P0 _ f0 (by rw [bs_geti, if_neg (by omega)]; exact t2) (Nat.zero_le _) (by omega) (t3.si _ (by decide) (by decide)) ⟨by rw [bs_geti, if_pos ⟨rfl, rfl⟩]; rfl, fun i hi => absurd hi (Nat.not_lt_zero _)⟩ (WW_0 _) rfl
    · rw [hz] at hQ
      exact hQ _ (RR_bad hR hW u1 u2)
    · rw [hy] at hQ
      dsimp only at hQ
      have h20 := u4.1
      refine nh_loop (α := nh_S) (fun k ρ => nh_E kX9_plan 267 [some (.ref 0), some (.int (nI k)), none, none, none] [] ρ Q) (fun k ρ => ρ.1 = (nh_si υ 0 16 0).1 ∧ (∀ j, j ≠ 10 → j ≠ 11 → ρ.2.1 j = υ.2.1 j) ∧ (∀ i, i < k → ρ.2.1 10 i = nI (sPa y.1 i) ∧ ρ.2.1 11 i = nI (sPb y.1 i)) ∧ ∀ i, 20 ≤ i → ρ.2.1 10 i = υ.2.1 10 i ∧ ρ.2.1 11 i = υ.2.1 11 i) (sPn y.1) ?_ ?_ (sPn y.1) 0 _ (by omega) ⟨rfl, fun _ _ _ => rfl, fun i hi => by omega, fun i _ => ⟨rfl, rfl⟩⟩
      · rintro ρ ⟨r1, r2, r3, r4⟩
        have r12 : ρ.1 0 12 = nI (sPn y.1) := by rw [r1, bs_geti, if_neg (by omega)]; exact u3.1
        refine sg_X9_plan_267 _ (pk_le (sPn y.1) (sPn y.1) (fun _ => ?_) (fun c => by omega) r12 rfl)
        rw [r12]
        refine hQ _ (RR_plan hR hW u1 u2 (by rw [bs_geti, if_pos ⟨rfl, rfl⟩]) r3 (by rw [bs_geti, if_neg (by omega), r1, bs_geti, if_pos ⟨rfl, rfl⟩]) (fun j hj => ?_) r2)
        simp at hj
        rw [bs_geti, if_neg (by omega), r1, bs_geti, if_neg (by omega)]
      · rintro k ρ hk ⟨r1, r2, r3, r4⟩ ih
        have r12 : ρ.1 0 12 = nI (sPn y.1) := by rw [r1, bs_geti, if_neg (by omega)]; exact u3.1
        have e20 : (20 : Int32) + nI k = nI (20 + k) := nI_add 20 k
        refine sg_X9_plan_267 _ (pk_le (sPn y.1) k (fun c => by omega) (fun _ => ?_) r12 rfl)
        rw [e20, nI_1, pk_cl k rfl (by omega), pk_cl (20 + k) rfl (by omega), (r4 (20 + k) (by omega)).1, (r4 (20 + k) (by omega)).2, (u3.2 k hk).1, (u3.2 k hk).2]
        refine ⟨pk_in (20 + k) 40 (by omega), pk_in k 40 (by omega), ih _ ⟨r1, fun j h1 h2 => by rw [wa_ne _ _ _ h2, wa_ne _ _ _ h1]; exact r2 j h1 h2, fun i hi => ?_, fun i hi => ?_⟩⟩
        · rw [bs_get, if_neg (by omega), bs_get, bs_get, wa_ne _ _ _ (by omega)]
          by_cases e : i = k
          · subst e; rw [if_pos ⟨rfl, rfl⟩, if_pos ⟨rfl, rfl⟩]; exact ⟨rfl, rfl⟩
          · rw [if_neg (fun z => e z.2), if_neg (fun z => e z.2)]; exact r3 i (by omega)
        · rw [bs_get, if_neg (by omega), bs_get, if_neg (by omega), bs_get, if_neg (by omega), bs_get, if_neg (by omega)]
          exact r4 i hi
  · rw [if_neg (by omega), if_neg (by omega)] at hQ
    exact hQ _ hR
