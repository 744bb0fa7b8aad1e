/-! THE REFERENCE: parish -/
def P0 : SP := fun _ _ _ => 0
theorem WQ_0 : WQ P0 := ⟨by decide, by decide, fun h hh => absurd hh (Nat.not_lt_zero _), fun p hp => absurd hp (Nat.not_lt_zero _), fun a b => ⟨Nat.zero_le _, fun q => absurd rfl q⟩⟩
def nBad (S : SP) (z : Nat × Nat) : SP := sUp (sUp S 19 0 0 0) 21 0 0 (z.2 + 1)
def nPar (S P : SP) : SP := fun t i j => if t ∈ [0, 1, 2, 3, 4, 6, 7, 8, 9] then P t i j else if t = 5 then fl P (sH P) i j else if t = 10 then 2 ^ i else if t ∈ [11, 14, 15, 16, 19, 21, 22] then 0 else if t = 13 then 10 else S t i j
theorem RR_T {σ τ : nh_S} {S : SP} (hR : RR σ S) (hW : WF S) (hf : frT σ τ) : RRc τ S ∧ RRm τ S ∧ RRp τ S ∧ RRx τ S ∧ RRi τ S := by
  obtain ⟨h1, h2, h3, h4, h5, h6⟩ := hR
  have h9 := hW.1.1
  have h12 := hW.1.2.1
  have h20 := hW.2.2.1.1
  have f := hf.1
  refine ⟨⟨?_, ?_, fun p hp => ?_, fun a b ha hb => ?_, fun h hh => ?_⟩, ⟨fun p hp => ?_, ?_, ?_⟩, ⟨?_, fun i hi => ?_⟩, ⟨fun p hp => ?_, ?_, ?_, fun p hp q => ?_⟩, fun i hi => ?_⟩
  · rw [f 9 0 (by unfold scr; omega)]; exact h1.1
  · rw [f 9 1 (by unfold scr; omega)]; exact h1.2.1
  · rw [f 6 p (by unfold scr; omega), f 7 p (by unfold scr; omega), f 8 p (by unfold scr; omega)]; exact h1.2.2.1 p hp
  · rw [f 14 _ (by unfold scr; omega)]; exact h1.2.2.2.1 a b ha hb
  · obtain ⟨g1, g2, g3⟩ := h1.2.2.2.2 h hh
    refine ⟨by rw [f 3 _ (by unfold scr; omega)]; exact g1, by rw [f 3 _ (by unfold scr; omega)]; exact g2, fun q hq => by rw [f 3 _ (by unfold scr; omega)]; exact g3 q hq⟩
  · rw [f 1 _ (by unfold scr; omega), f 1 _ (by unfold scr; omega)]; exact h2.1 p hp
  · rw [f 1 _ (by unfold scr; omega)]; exact h2.2.1
  · rw [f 1 _ (by unfold scr; omega)]; exact h2.2.2
  · rw [hf.2 11 (by decide)]; exact h3.1
  · rw [f 10 _ (by unfold scr; omega), f 11 _ (by unfold scr; omega)]; exact h3.2 i hi
  · rw [f 12 _ (by unfold scr; omega)]; exact h4.1 p hp
  · rw [hf.2 14 (by decide)]; exact h4.2.1
  · rw [hf.2 37 (by decide)]; exact h4.2.2.1
  · rw [f 26 _ (by unfold scr; omega)]; exact h4.2.2.2 p hp q
  · obtain ⟨g1, g2⟩ := h5 i hi
    refine ⟨by rw [f 2 _ (by unfold scr; omega)]; exact g1, fun q => ?_⟩
    obtain ⟨g3, g4, g5⟩ := g2 q
    refine ⟨fun p hp => by rw [f 1 _ (by unfold scr; omega), f 1 _ (by unfold scr; omega)]; exact g3 p hp, by rw [f 1 _ (by unfold scr; omega)]; exact g4, by rw [f 1 _ (by unfold scr; omega)]; exact g5⟩
theorem nBad_ne (S : SP) (z : Nat × Nat) {t : Nat} (h1 : t ≠ 19) (h2 : t ≠ 21) : nBad S z t = S t := by unfold nBad; rw [sUp_ne _ h2, sUp_ne _ h1]
theorem RR_bad {σ τ : nh_S} {S : SP} {z : Nat × Nat} (hR : RR σ S) (hW : WF S) (hf : frT σ τ) (hb : bdy τ z) : RR (nh_si τ 0 16 0) (nBad S z) := by
  obtain ⟨h1, h2, h3, h4, h5⟩ := RR_T hR hW hf
  have g := fun t a b => nBad_ne S z (t := t) a b
  have e21 : (nBad S z) 21 0 0 = z.2 + 1 := by unfold nBad; rw [sUp_at, if_pos ⟨rfl, rfl⟩]
  have e19 : (nBad S z) 19 0 0 = 0 := by unfold nBad; rw [sUp_ne _ (by omega), sUp_at, if_pos ⟨rfl, rfl⟩]
  have si : ∀ j, j ≠ 16 → (nh_si τ 0 16 0).1 0 j = τ.1 0 j := fun j hj => si_ne τ 0 16 0 hj
  refine ⟨RRc_tr h1 rfl rfl rfl rfl rfl rfl (fun t ht => g t (by omega) (by omega)), RRm_tr h2 (fun _ _ => rfl) hW.1.2.1 (g 1 (by omega) (by omega)) (g 9 (by omega) (by omega)) (g 10 (by omega) (by omega)) (g 11 (by omega) (by omega)) (g 12 (by omega) (by omega)), RRp_tr h3 (si 11 (by omega)) rfl rfl (g 16 (by omega) (by omega)) (g 17 (by omega) (by omega)) (g 18 (by omega) (by omega)), RRx_tr h4 (si 14 (by omega)) (si 37 (by omega)) rfl rfl (g 1 (by omega) (by omega)) (g 13 (by omega) (by omega)) (g 14 (by omega) (by omega)) (g 15 (by omega) (by omega)), RRi_tr h5 (fun _ _ => rfl) (fun _ _ => rfl) (g 1 (by omega) (by omega)) (g 22 (by omega) (by omega)) (g 23 (by omega) (by omega)) (g 24 (by omega) (by omega)) (g 25 (by omega) (by omega)) (g 26 (by omega) (by omega)), ?_, fun i hi => ?_, ?_⟩
  · rw [bs_geti, if_pos ⟨rfl, rfl⟩]
    show (0 : Int32) = nI ((nBad S z) 19 0 0)
    rw [e19]; rfl
  · have hi2 : i < (nBad S z) 19 0 0 := hi
    rw [e19] at hi2
    omega
  · rw [si 21 (by omega), hb.2.1]
    show _ = ot (if (nBad S z) 21 0 0 = 0 then none else some ((nBad S z) 21 0 0 - 1))
    rw [e21, if_neg (by omega)]
    rfl
theorem rt_of {σ : nh_S} {S : SP} (hR : RR σ S) (hW : WF S) : rt σ (sTx S) (sTn S) := ⟨hR.2.2.2.2.2.1, hW.2.2.2.2.2.1, fun i hi => ⟨hR.2.2.2.2.2.2.1 i hi, hW.2.2.2.2.2.2.1 i hi⟩⟩
theorem RRo_rt {σ τ : nh_S} {T : Nat → Nat} {n : Nat} (h : rt σ T n) (g1 : τ.1 0 16 = σ.1 0 16) (g2 : τ.2.1 13 = σ.2.1 13) : rt τ T n := ⟨g1.trans h.1, h.2.1, fun i hi => by rw [g2]; exact h.2.2 i hi⟩
theorem r_beginReading {σ : nh_S} {Q : Option Value → nh_S → Prop} (hQ : ∀ τ, frI [17, 20, 21] σ τ → τ.1 0 17 = nI 0 → snd τ → Q none τ) : nh_E kX9_beginReading 0 [some (.ref 0)] [] σ Q := by
  refine sg_X9_beginReading_0 (hQ _ ((((frI.rf _ σ).si _ (by decide)).si _ (by decide)).si _ (by decide)) ?_ ⟨?_, ?_⟩)
  · rw [bs_geti, if_neg (by omega), bs_geti, if_neg (by omega), bs_geti, if_pos ⟨rfl, rfl⟩]; rfl
  · rw [bs_geti, if_neg (by omega), bs_geti, if_pos ⟨rfl, rfl⟩]
  · rw [bs_geti, if_pos ⟨rfl, rfl⟩]
def aParish (S : SP) : Int32 := match tkAll (sTx S) (sTn S) 600 P0 0 with
  | .error z => -10 - nI z.1
  | .ok y => nI (sH y.1)
def nParish (S : SP) : SP := match tkAll (sTx S) (sTn S) 600 P0 0 with
  | .error z => nBad S z
  | .ok y => nPar S y.1
set_option maxHeartbeats 1000000 in
theorem r_par_tail {σ τ : nh_S} {S P : SP} (hR : RR σ S) (hW : WF S) (hf : frT σ τ) (hs : snd τ) (hQ0 : RQ τ P) (hWP : WQ P) {Q : Option Value → nh_S → Prop} (hQ : ∀ υ, RR υ (nPar S P) → Q (some (.int (nI (sH P)))) υ) :
    nh_E kX9_parish 108 [some (.ref 0), some (.int 0)] [] (nh_wa (nh_wa (nh_si τ 0 16 0) 9 0 (τ.2.1 9 2)) 9 1 ((nh_wa (nh_si τ 0 16 0) 9 0 (τ.2.1 9 2)).2.1 9 3)) Q := by
  have h9 := hWP.1
  have h12 := hWP.2.1
  have hw12 := hW.1.2.1
  obtain ⟨q1, q2, q3, q4, q5⟩ := hQ0
  have i0 : ∀ j, j ≠ 16 → (nh_wa (nh_wa (nh_si τ 0 16 0) 9 0 (τ.2.1 9 2)) 9 1 ((nh_wa (nh_si τ 0 16 0) 9 0 (τ.2.1 9 2)).2.1 9 3)).1 0 j = τ.1 0 j := fun j hj => si_ne τ 0 16 0 hj
  have i16 : (nh_wa (nh_wa (nh_si τ 0 16 0) 9 0 (τ.2.1 9 2)) 9 1 ((nh_wa (nh_si τ 0 16 0) 9 0 (τ.2.1 9 2)).2.1 9 3)).1 0 16 = 0 := by show (nh_si τ 0 16 0).1 0 16 = 0; rw [bs_geti, if_pos ⟨rfl, rfl⟩]
  have a0 : ∀ k i, (k ≠ 9 ∨ (i ≠ 0 ∧ i ≠ 1)) → (nh_wa (nh_wa (nh_si τ 0 16 0) 9 0 (τ.2.1 9 2)) 9 1 ((nh_wa (nh_si τ 0 16 0) 9 0 (τ.2.1 9 2)).2.1 9 3)).2.1 k i = τ.2.1 k i := fun k i hk => by rw [bs_get, if_neg (by omega), bs_get, if_neg (by omega)]; rfl
  have a90 : (nh_wa (nh_wa (nh_si τ 0 16 0) 9 0 (τ.2.1 9 2)) 9 1 ((nh_wa (nh_si τ 0 16 0) 9 0 (τ.2.1 9 2)).2.1 9 3)).2.1 9 0 = nI (sH P) := by rw [bs_get, if_neg (by omega), bs_get, if_pos ⟨rfl, rfl⟩]; exact q1
  have a91 : (nh_wa (nh_wa (nh_si τ 0 16 0) 9 0 (τ.2.1 9 2)) 9 1 ((nh_wa (nh_si τ 0 16 0) 9 0 (τ.2.1 9 2)).2.1 9 3)).2.1 9 1 = nI (sP P) := by rw [bs_get, if_pos ⟨rfl, rfl⟩, bs_get, if_neg (by omega)]; exact q2
  generalize nh_wa (nh_wa (nh_si τ 0 16 0) 9 0 (τ.2.1 9 2)) 9 1 ((nh_wa (nh_si τ 0 16 0) 9 0 (τ.2.1 9 2)).2.1 9 3) = υ at i0 i16 a0 a90 a91
  -- houses
  refine nh_loop (α := nh_S) (fun k ρ => nh_E kX9_parish 108 [some (.ref 0), some (.int (nI k))] [] ρ Q) (fun n ρ => ρ.1 = υ.1 ∧ (∀ k, k ≠ 3 → ρ.2.1 k = υ.2.1 k) ∧ (∀ i, i < n → ρ.2.1 3 i = υ.2.1 3 (54 + i)) ∧ ∀ i, 54 ≤ i → ρ.2.1 3 i = υ.2.1 3 i) 54 ?_ ?_ 54 0 υ rfl ⟨rfl, fun _ _ => rfl, fun i hi => by omega, fun _ _ => rfl⟩
  · rintro ρ ⟨g1, g2, g3, g4⟩
    refine sg_X9_parish_108 _ (pk_le 54 54 (fun _ => ?_) (fun c => by omega))
    -- ways
    refine nh_loop (α := nh_S) (fun k κ => nh_E kX9_parish 137 [some (.ref 0), some (.int (nI k))] [] κ Q) (fun n κ => κ.1 = υ.1 ∧ (∀ k, k ≠ 4 → κ.2.1 k = ρ.2.1 k) ∧ (∀ i, i < n → κ.2.1 4 i = υ.2.1 4 (81 + i)) ∧ ∀ i, 81 ≤ i → κ.2.1 4 i = υ.2.1 4 i) 81 ?_ ?_ 81 0 ρ rfl ⟨g1, fun _ _ => rfl, fun i hi => by omega, fun i _ => by rw [g2 4 (by omega)]⟩
    · rintro κ ⟨k1, k2, k3, k4⟩
      refine sg_X9_parish_137 _ (pk_le 81 81 (fun _ => ?_) (fun c => by omega))
      -- parts
      refine nh_loop (α := nh_S) (fun k μ => nh_E kX9_parish 166 [some (.ref 0), some (.int (nI k))] [] μ Q) (fun n μ => μ.1 = υ.1 ∧ (∀ k, k ∉ [1, 6, 7, 8, 12] → μ.2.1 k = κ.2.1 k) ∧ (∀ p, p < n → μ.2.1 1 p = υ.2.1 5 (12 + p) ∧ μ.2.1 6 p = υ.2.1 6 (12 + p) ∧ μ.2.1 7 p = υ.2.1 7 (12 + p) ∧ μ.2.1 8 p = υ.2.1 8 (12 + p) ∧ μ.2.1 1 (12 + p) = nI (2 ^ p) ∧ μ.2.1 12 p = nI 10) ∧ (∀ i, 24 ≤ i → μ.2.1 1 i = υ.2.1 1 i) ∧ ∀ k i, (k = 6 ∨ k = 7 ∨ k = 8) → 12 ≤ i → μ.2.1 k i = υ.2.1 k i) 12 ?_ ?_ 12 0 κ rfl ⟨k1, fun _ _ => rfl, fun i hi => by omega, fun i _ => by rw [k2 1 (by omega), g2 1 (by omega)], fun k i h1 h2 => by rw [k2 k (by omega), g2 k (by omega)]⟩
      · rintro μ ⟨m1, m2, m3, m4, m5⟩
        refine sg_X9_parish_166 _ (pk_le 12 12 (fun _ => ?_) (fun c => by omega))
        have n4 : ∀ a b, a < 9 → b < 9 → (nh_wa (nh_wa (nh_si (nh_si (nh_si (nh_wa μ 1 24 0) 0 11 0) 0 14 0) 0 37 0) 2 0 (vp_nar .boolean 0)) 2 1 (vp_nar .boolean 0)).2.1 4 (9 * a + b) = nI (sWy P a b) := by
          intro a b ha hb
          rw [wa_ne _ _ _ (by omega), wa_ne _ _ _ (by omega)]
          show (nh_wa μ 1 24 0).2.1 4 _ = _
          rw [wa_ne _ _ _ (by omega), m2 4 (by decide), k3 _ (by omega), a0 4 _ (by omega), show 81 + (9 * a + b) = 81 + 9 * a + b by omega]
          exact q5 a b ha hb
        refine r_findFar hWP n4 (fun κ2 z1 z2 => ⟨rfl, ?_⟩)
        have o : ∀ k, k ∉ [1, 2, 14] → κ2.2.1 k = μ.2.1 k := fun k hk => by
          simp at hk
          rw [z1.2 k (by simp; omega), wa_ne _ _ _ (by omega), wa_ne _ _ _ (by omega)]
          show (nh_wa μ 1 24 0).2.1 k = _
          rw [wa_ne _ _ _ (by omega)]
        have o2 : ∀ i, i < 2 → κ2.2.1 2 i = 0 := fun i hi => by
          rw [z1.2 2 (by decide), bs_get, bs_get]
          rcases (show i = 0 ∨ i = 1 by omega) with rfl | rfl
          · rw [if_neg (by omega), if_pos ⟨rfl, rfl⟩]; rfl
          · rw [if_pos ⟨rfl, rfl⟩]; rfl
        have o1 : ∀ i, κ2.2.1 1 i = if i = 24 then 0 else μ.2.1 1 i := fun i => by
          rw [z1.2 1 (by decide), wa_ne _ _ _ (by omega), wa_ne _ _ _ (by omega)]
          show (nh_wa μ 1 24 0).2.1 1 i = _
          rw [bs_get]
          simp
        have oi : ∀ j, κ2.1 0 j = if j = 37 ∨ j = 14 ∨ j = 11 then 0 else υ.1 0 j := fun j => by
          rw [z1.1]
          show (nh_si (nh_si (nh_si (nh_wa μ 1 24 0) 0 11 0) 0 14 0) 0 37 0).1 0 j = _
          rw [bs_geti, bs_geti, bs_geti, bs_wa1, m1]
          by_cases c1 : j = 37
          · rw [if_pos ⟨rfl, c1⟩, if_pos (Or.inl c1)]
          · rw [if_neg (fun z => c1 z.2)]
            by_cases c2 : j = 14
            · rw [if_pos ⟨rfl, c2⟩, if_pos (Or.inr (Or.inl c2))]
            · rw [if_neg (fun z => c2 z.2)]
              by_cases c3 : j = 11
              · rw [if_pos ⟨rfl, c3⟩, if_pos (Or.inr (Or.inr c3))]
              · rw [if_neg (fun z => c3 z.2), if_neg (by omega)]
        have e9 : κ2.2.1 9 0 = nI (sH P) := by rw [o 9 (by decide), m2 9 (by decide), k2 9 (by omega), g2 9 (by omega)]; exact a90
        dsimp only
        rw [e9]
        have t : ∀ x, x ∈ [0, 1, 2, 3, 4, 6, 7, 8, 9] → nPar S P x = P x := fun x hx => by funext i j; unfold nPar; rw [if_pos hx]
        have t5 : nPar S P 5 = fl P (sH P) := by funext i j; unfold nPar; rw [if_neg (by decide), if_pos rfl]
        have t10 : ∀ p, nPar S P 10 p 0 = 2 ^ p := fun p => by unfold nPar; rw [if_neg (by decide), if_neg (by decide), if_pos rfl]
        have t0 : ∀ x i j, x ∈ [11, 14, 15, 16, 19, 21, 22] → nPar S P x i j = 0 := fun x i j hx => by
          unfold nPar
          simp at hx
          rw [if_neg (by simp; omega), if_neg (by omega), if_neg (by omega), if_pos (by simp; omega)]
        have t13 : ∀ p, nPar S P 13 p 0 = 10 := fun p => by unfold nPar; rw [if_neg (by decide), if_neg (by decide), if_neg (by decide), if_neg (by decide), if_pos rfl]
        have t12 : nPar S P 12 0 0 = S 12 0 0 := by unfold nPar; rw [if_neg (by decide), if_neg (by decide), if_neg (by decide), if_neg (by decide), if_neg (by decide)]
        refine hQ κ2 ⟨⟨?_, ?_, fun p hp => ?_, fun a b ha hb => ?_, fun h hh => ?_⟩, ⟨fun p hp => ?_, ?_, ?_⟩, ⟨?_, fun i hi => ?_⟩, ⟨fun p hp => ?_, ?_, ?_, fun p hp q => ?_⟩, fun i hi => ⟨?_, fun q => ?_⟩, ?_, fun i hi => ?_, ?_⟩
        · rw [e9, show sH (nPar S P) = sH P by unfold sH; rw [t 0 (by decide)]]
        · rw [o 9 (by decide), m2 9 (by decide), k2 9 (by omega), g2 9 (by omega), show sP (nPar S P) = sP P by unfold sP; rw [t 1 (by decide)]]
          exact a91
        · have hp2 : p < sP P := by unfold sP at hp; rw [t 1 (by decide)] at hp; exact hp
          obtain ⟨b1, b2, b3, b4⟩ := q4 p hp2
          obtain ⟨c1, c2, c3, c4, -⟩ := m3 p (by omega)
          rw [o 6 (by decide), o 7 (by decide), o 8 (by decide), c2, c3, c4, a0 6 _ (by omega), a0 7 _ (by omega), a0 8 _ (by omega)]
          unfold sMi sGa sBe
          rw [t 2 (by decide), t 3 (by decide), t 4 (by decide)]
          exact ⟨b2, b3, b4⟩
        · unfold sH at ha hb
          rw [t 0 (by decide)] at ha hb
          have ha : a < sH P := ha
          have hb : b < sH P := hb
          rw [z2 a b (by omega) (by omega)]
          unfold sFar
          rw [t5, fl_9 hWP ha hb]
        · have hh2 : h < sH P := by unfold sH at hh; rw [t 0 (by decide)] at hh; exact hh
          obtain ⟨b1, b2, b3⟩ := q3 h hh2
          have v : ∀ i, i < 54 → κ2.2.1 3 i = τ.2.1 3 (54 + i) := fun i hi => by rw [o 3 (by decide), m2 3 (by decide), k2 3 (by omega), g3 i hi, a0 3 _ (by omega)]
          unfold sWk sKy sOd
          rw [t 6 (by decide), t 7 (by decide), t 8 (by decide)]
          refine ⟨by rw [v _ (by omega)]; exact b1, by rw [v _ (by omega)]; exact b2, fun q hq => ?_⟩
          rw [v _ (by omega), show 54 + (6 * h + 2 + q) = 54 + 6 * h + 2 + q by omega]
          exact b3 q hq
        · have hp2 : p < sP P := by unfold sP at hp; rw [t 1 (by decide)] at hp; exact hp
          obtain ⟨b1, -⟩ := q4 p hp2
          obtain ⟨c1, -, -, -, c5, -⟩ := m3 p (by omega)
          rw [o1, o1, if_neg (by omega), if_neg (by omega), c1, c5, a0 5 _ (by omega)]
          unfold sKp sFt
          rw [t 9 (by decide), t10]
          exact ⟨b1, rfl⟩
        · rw [o1, if_pos rfl]
          unfold sAw
          rw [t0 11 0 0 (by decide)]; rfl
        · rw [o1, if_neg (by omega), m4 25 (by omega), a0 1 _ (by omega), hf.1 1 25 (by unfold scr; omega)]
          unfold sSd
          rw [t12]
          exact hR.2.1.2.2
        · rw [oi, if_pos (by omega)]
          unfold sPn
          rw [t0 16 0 0 (by decide)]; rfl
        · unfold sPn at hi
          rw [t0 16 0 0 (by decide)] at hi
          omega
        · have hp2 : p < sP P := by unfold sP at hp; rw [t 1 (by decide)] at hp; exact hp
          obtain ⟨-, -, -, -, -, c6⟩ := m3 p (by omega)
          rw [o 12 (by decide), c6]
          unfold sCs
          rw [t13]
        · rw [oi, if_pos (by omega)]
          unfold sSt
          rw [t0 14 0 0 (by decide)]; rfl
        · rw [oi, if_pos (by omega)]
          show nI 0 = _
          congr 1
          apply bs_ext
          intro i
          unfold lgm
          rw [mk_bit, Nat.zero_testBit, show sLg (nPar S P) i = 0 from t0 15 i 0 (by decide)]
          simp
        · exact absurd (t0 15 p 0 (by decide)) q
        · rw [o2 i hi]
          unfold sIm
          rw [t0 22 i 0 (by decide)]; rfl
        · unfold sIm at q
          rw [t0 22 i 0 (by decide)] at q
          omega
        · rw [oi, if_neg (by omega), i16]
          unfold sTn
          rw [t0 19 0 0 (by decide)]; rfl
        · unfold sTn at hi
          rw [t0 19 0 0 (by decide)] at hi
          omega
        · rw [oi, if_neg (by omega), i0 21 (by omega), hs.2]
          unfold sFa
          rw [t0 21 0 0 (by decide), if_pos rfl]
          rfl
      · rintro p μ hp ⟨m1, m2, m3, m4, m5⟩ ih
        have e12 : (12 : Int32) + nI p = nI (12 + p) := nI_add 12 p
        refine sg_X9_parish_166 _ (pk_le 12 p (fun c => by omega) (fun _ => ?_))
        rw [e12, nI_1, bs_shl (by omega), pk_cl p rfl (by omega), pk_cl (12 + p) rfl (by omega)]
        refine ⟨pk_in (12 + p) 24 (by omega), pk_in p 78 (by omega), pk_in p 24 (by omega), pk_in (12 + p) 78 (by omega), pk_in p 12 (by omega), ih _ ⟨m1, fun k hk => ?_, fun q hq => ?_, fun i hi => ?_, fun k i hk hi => ?_⟩⟩
        · simp at hk
          rw [wa_ne _ _ _ (by omega), wa_ne _ _ _ (by omega), wa_ne _ _ _ (by omega), wa_ne _ _ _ (by omega), wa_ne _ _ _ (by omega), wa_ne _ _ _ (by omega)]
          exact m2 k (by simp; omega)
        · have v5 : μ.2.1 5 (12 + p) = υ.2.1 5 (12 + p) := by rw [m2 5 (by decide), k2 5 (by omega), g2 5 (by omega)]
          simp only [bs_get]
          by_cases e : q = p
          · subst e
            rw [← v5, ← m5 6 (12 + q) (by omega) (by omega), ← m5 7 (12 + q) (by omega) (by omega), ← m5 8 (12 + q) (by omega) (by omega)]
            simp
            rfl
          · obtain ⟨c1, c2, c3, c4, c5, c6⟩ := m3 q (by omega)
            simp only [e, and_false, if_false, c1, c2, c3, c4, c6, true_and, show ¬ (12 + q = p) from by omega, show ¬ (q = 12 + p) from by omega, show ¬ (12 + q = 12 + p) from by omega, c5, show ¬ (1 = 12) from by omega, show ¬ (6 = 12) from by omega, show ¬ (7 = 12) from by omega, show ¬ (8 = 12) from by omega, show ¬ (1 = 8) from by omega, show ¬ (1 = 7) from by omega, show ¬ (1 = 6) from by omega, false_and, and_self]
        · simp only [bs_get]
          rw [if_neg (by omega), if_neg (by omega), if_neg (by omega), if_neg (by omega), if_neg (by omega), if_neg (by omega)]
          exact m4 i hi
        · simp only [bs_get]
          rw [if_neg (by omega), if_neg (by omega), if_neg (by omega), if_neg (by omega), if_neg (by omega), if_neg (by omega)]
          exact m5 k i hk hi
    · rintro k κ hk ⟨k1, k2, k3, k4⟩ ih
      have e81 : (81 : Int32) + nI k = nI (81 + k) := nI_add 81 k
      refine sg_X9_parish_137 _ (pk_le 81 k (fun c => by omega) (fun _ => ?_))
      rw [e81, nI_1, pk_cl k rfl (by omega), pk_cl (81 + k) rfl (by omega)]
      refine ⟨pk_in (81 + k) 162 (by omega), pk_in k 162 (by omega), ih _ ⟨k1, fun j hj => by rw [wa_ne _ _ _ hj]; exact k2 j hj, fun i hi => ?_, fun i hi => ?_⟩⟩
      · rw [bs_get]
        by_cases e : i = k
        · subst e; rw [if_pos ⟨rfl, rfl⟩]; exact k4 _ (by omega)
        · rw [if_neg (by omega)]; exact k3 i (by omega)
      · rw [bs_get, if_neg (by omega)]; exact k4 i hi
  · rintro k ρ hk ⟨g1, g2, g3, g4⟩ ih
    have e54 : (54 : Int32) + nI k = nI (54 + k) := nI_add 54 k
    refine sg_X9_parish_108 _ (pk_le 54 k (fun c => by omega) (fun _ => ?_))
    rw [e54, nI_1, pk_cl k rfl (by omega), pk_cl (54 + k) rfl (by omega)]
    refine ⟨pk_in (54 + k) 108 (by omega), pk_in k 108 (by omega), ih _ ⟨g1, fun j hj => by rw [wa_ne _ _ _ hj]; exact g2 j hj, fun i hi => ?_, fun i hi => ?_⟩⟩
    · rw [bs_get]
      by_cases e : i = k
      · subst e; rw [if_pos ⟨rfl, rfl⟩]; exact g4 _ (by omega)
      · rw [if_neg (by omega)]; exact g3 i (by omega)
    · rw [bs_get, if_neg (by omega)]; exact g4 i hi
theorem r_par_loop {σ : nh_S} {S : SP} (hR : RR σ S) (hW : WF S) {Q : Option Value → nh_S → Prop}
    (hQ : ∀ τ (w : Rs SP), frT σ τ → rst τ w → (∀ y, w = .ok y → WQ y.1) → w = tkAll (sTx S) (sTn S) 600 P0 0 → (match w with | .error z => Q (some (.int (-10 - nI z.1))) (nh_si τ 0 16 0) | .ok _ => nh_E kX9_parish 108 [some (.ref 0), some (.int 0)] [] (nh_wa (nh_wa (nh_si τ 0 16 0) 9 0 (τ.2.1 9 2)) 9 1 ((nh_wa (nh_si τ 0 16 0) 9 0 (τ.2.1 9 2)).2.1 9 3)) Q)) :
    ∀ (fu a : Nat) (P : SP) (τ : nh_S), frT σ τ → τ.1 0 17 = nI a → a ≤ sTn S → sTn S ≤ a + fu → snd τ → RQ τ P → WQ P → tkAll (sTx S) (sTn S) fu P a = tkAll (sTx S) (sTn S) 600 P0 0 → nh_E kX9_parish 41 [some (.ref 0), none] [] τ Q := by
  have ht := rt_of hR hW
  -- the end
  have fin : ∀ (a : Nat) (P : SP) (τ : nh_S), frT σ τ → τ.1 0 17 = nI a → a ≤ sTn S → snd τ → RQ τ P → WQ P → ¬ sk (sTx S) (sTn S) a < sTn S → (∀ e, Except.ok (P, e) = tkAll (sTx S) (sTn S) 600 P0 0 ∨ e ≠ sk (sTx S) (sTn S) a) → nh_E kX9_parish 41 [some (.ref 0), none] [] τ Q := by
    intro a P τ hf h17 ha hs hq hw hn htk
    refine sg_X9_parish_41 ⟨fun q => absurd hs.1 q, fun _ => ?_⟩
    refine r_here (sTn S - a) a τ (ht.T hf) h17 (by omega) (fun υ u1 u2 => ⟨_, rfl, fun _ => ?_, fun q => ?_⟩)
    · have hsu := hs.fr u1 (by decide) (by decide)
      refine ⟨fun _ => ?_, fun q => absurd (by rw [hsu.1]; decide) q⟩
      rcases htk (sk (sTx S) (sTn S) a) with z | z
      · exact hQ υ (.ok (P, sk (sTx S) (sTn S) a)) (hf.tr (u1.T (by decide))) ⟨u2, hsu, hq.fr (by rw [u1.1])⟩ (fun y hy => by cases hy; exact hw) z
      · exact absurd rfl z
    · rw [if_neg hn] at q
      exact absurd (by decide) q
  intro fu
  induction fu with
  | zero =>
    intro a P τ hf h17 ha hfu hs hq hw htk
    have e : a = sTn S := by omega
    have es : sk (sTx S) (sTn S) a = a := rx_at (fun q => by omega)
    refine fin a P τ hf h17 ha hs hq hw (by rw [es]; omega) (fun e2 => ?_)
    by_cases c : e2 = sk (sTx S) (sTn S) a
    · left
      rw [c, es]
      exact htk
    · exact Or.inr c
  | succ fu ih =>
    intro a P τ hf h17 ha hfu hs hq hw htk
    rw [tkAll] at htk
    by_cases hn : sk (sTx S) (sTn S) a < sTn S
    · rw [if_pos hn] at htk
      have hs1 := sk_ge (sTx S) (sTn S) a
      have hc := tkC_fine (T := sTx S) (P := P) (show sk (sTx S) (sTn S) a ≤ sTn S by omega)
      have hes : tkC (sTx S) (sTn S) P (sk (sTx S) (sTn S) a) = tkC (sTx S) (sTn S) P a := by
        have e2 := sk_sk (sTx S) (sTn S) a
        unfold tkC wd
        rw [e2]
      rw [hes] at hc
      refine sg_X9_parish_41 ⟨fun q => absurd hs.1 q, fun _ => ?_⟩
      refine r_here (sTn S - a) a τ (ht.T hf) h17 (by omega) (fun υ u1 u2 => ⟨_, rfl, fun q => ?_, fun _ => ?_⟩)
      · rw [if_pos hn] at q
        exact absurd q (nI_pos (by have := (ht.2.2 _ hn).2; omega))
      · have f1 : frT σ υ := hf.tr (u1.T (by decide))
        refine r_takeClause (P := P) (ht.T f1) u2 (by omega) (hs.fr u1 (by decide) (by decide)) (hq.fr (by rw [u1.1])) hw (fun ρ r1 r2 => ⟨rfl, ?_⟩)
        rw [hes] at r2
        cases hk : tkC (sTx S) (sTn S) P a with
        | error z =>
          rw [hk] at r2 htk
          have r2 : bdy ρ z := r2
          refine sg_X9_parish_41 ⟨fun _ => ⟨fun q => absurd q r2.gt, fun _ => ?_⟩, fun q => absurd q r2.ne⟩
          rw [r2.1]
          exact hQ ρ (.error z) (f1.tr r1) r2 (fun y hy => by cases hy) htk
        | ok y =>
          obtain ⟨P2, e⟩ := y
          rw [hk] at r2 htk hc
          rw [rb_ok] at htk
          obtain ⟨b1, b2, b3⟩ := r2
          exact ih e P2 ρ (f1.tr r1) b1 hc.2 (by have := hc.1; dsimp only at this; omega) b2 b3 (tkC_WQ hw hk) htk
    · rw [if_neg hn] at htk
      refine fin a P τ hf h17 ha hs hq hw hn (fun e2 => ?_)
      by_cases c : e2 = sk (sTx S) (sTn S) a
      · left
        rw [c]
        exact htk
      · exact Or.inr c
theorem r_parish {S : SP} {σ : nh_S} (hR : RR σ S) (hW : WF S) {Q : Option Value → nh_S → Prop} (hQ : ∀ τ, RR τ (nParish S) → Q (some (.int (aParish S))) τ) : nh_E kX9_parish 0 [some (.ref 0), none] [] σ Q := by
  unfold nParish aParish at hQ
  refine sg_X9_parish_0 ?_
  refine r_beginReading (fun τ t1 t2 t3 => ⟨rfl, ?_⟩)
  have f0 : frT σ (nh_wa (nh_wa τ 9 2 0) 9 3 0) := ((t1.T (by decide)).wa _ (by unfold scr; omega)).wa _ (by unfold scr; omega)
  refine nh_loop (α := nh_S) (fun k υ => nh_E kX9_parish 21 [some (.ref 0), some (.int (nI k))] [] υ Q) (fun k υ => frT σ υ ∧ υ.1 = τ.1 ∧ υ.2.1 9 2 = 0 ∧ υ.2.1 9 3 = 0 ∧ ∀ j, 81 ≤ j → j < k → υ.2.1 4 j = 0) 162 ?_ ?_ 81 81 _ rfl ⟨f0, rfl, by rw [bs_get, if_neg (by omega), bs_get, if_pos ⟨rfl, rfl⟩], by rw [bs_get, if_pos ⟨rfl, rfl⟩], fun j h1 h2 => by omega⟩
  · rintro υ ⟨u1, u2, u3, u4, u5⟩
    refine sg_X9_parish_21 _ (pk_le 162 162 (fun _ => ?_) (fun c => by omega))
    refine r_par_loop hR hW (fun ρ w r1 r2 r3 hw => ?_) 600 0 P0 υ u1 (by rw [u2]; exact t2) (Nat.zero_le _) (by have := hW.2.2.2.2.2.1; omega) ⟨by rw [u2]; exact t3.1, by rw [u2]; exact t3.2⟩ ⟨u3, u4, fun h hh => absurd hh (Nat.not_lt_zero _), fun p hp => absurd hp (Nat.not_lt_zero _), fun a b ha hb => u5 _ (by omega) (by omega)⟩ WQ_0 rfl
    rw [← hw] at hQ
    cases w with
    | error z => exact hQ _ (RR_bad hR hW r1 r2)
    | ok y =>
      obtain ⟨P, e⟩ := y
      exact r_par_tail hR hW r1 r2.2.1 r2.2.2 (r3 _ rfl) hQ
  · rintro k υ hk ⟨u1, u2, u3, u4, u5⟩ ih
    by_cases h81 : 81 ≤ k
    · refine sg_X9_parish_21 _ (pk_le 162 k (fun c => by omega) (fun _ => ⟨pk_in k 162 hk, ?_⟩))
      rw [nI_1, pk_cl k rfl (by omega)]
      refine ih _ ⟨u1.wa _ (by unfold scr; omega), u2, by rw [wa_ne _ _ _ (by omega)]; exact u3, by rw [wa_ne _ _ _ (by omega)]; exact u4, fun j h1 h2 => ?_⟩
      rw [bs_get]
      by_cases e : j = k
      · rw [if_pos ⟨rfl, e⟩]
      · rw [if_neg (fun z => e z.2)]
        exact u5 j h1 (by omega)
    · refine sg_X9_parish_21 _ (pk_le 162 k (fun c => by omega) (fun _ => ⟨pk_in k 162 hk, ?_⟩))
      rw [nI_1, pk_cl k rfl (by omega)]
      refine ih _ ⟨u1.wa _ (by unfold scr; omega), u2, by rw [wa_ne _ _ _ (by omega)]; exact u3, by rw [wa_ne _ _ _ (by omega)]; exact u4, fun j h1 h2 => by omega⟩
