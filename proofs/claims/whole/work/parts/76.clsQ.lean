/-! THE CLASS: parts, FAR, the whole parish -/
theorem nPart_CQ {σ τ : nh_S} {o : Nat} {P : SP} {h m g B : Nat} (hC : CQ σ o P) (u0 : τ.1 o 0 = σ.1 o 0) (u1 : τ.1 o 1 = nI (sP P + 1)) (v18 : τ.2.1 (o + 18) (sP P) = nI h) (v19 : τ.2.1 (o + 19) (sP P) = nI m) (v20 : τ.2.1 (o + 20) (sP P) = nI g) (v21 : τ.2.1 (o + 21) (sP P) = nI B) (u4 : ∀ c j, ¬ (j = sP P ∧ o + 18 ≤ c ∧ c ≤ o + 21) → τ.2.1 c j = σ.2.1 c j) : CQ τ o (nPart P h m g B) := by
  obtain ⟨r1, r2, r3, r4, r5⟩ := hC
  have w : ∀ t, t ∉ [1, 2, 3, 4, 9] → nPart P h m g B t = P t := fun t ht => by
    simp at ht
    unfold nPart
    rw [sUp_ne _ (by omega), sUp_ne _ (by omega), sUp_ne _ (by omega), sUp_ne _ (by omega), sUp_ne _ (by omega)]
  have eP : sP (nPart P h m g B) = sP P + 1 := by unfold nPart sP; rw [sUp_at, if_pos ⟨rfl, rfl⟩]
  have f9 : ∀ p, sKp (nPart P h m g B) p = if p = sP P then h else sKp P p := fun p => by unfold nPart sKp; rw [sUp_ne _ (by omega), sUp_ne _ (by omega), sUp_ne _ (by omega), sUp_ne _ (by omega), sUp_at]; simp
  have f2 : ∀ p, sMi (nPart P h m g B) p = if p = sP P then m else sMi P p := fun p => by unfold nPart sMi; rw [sUp_ne _ (by omega), sUp_ne _ (by omega), sUp_ne _ (by omega), sUp_at, sUp_ne _ (by omega)]; simp
  have f3 : ∀ p, sGa (nPart P h m g B) p = if p = sP P then g else sGa P p := fun p => by unfold nPart sGa; rw [sUp_ne _ (by omega), sUp_ne _ (by omega), sUp_at, sUp_ne _ (by omega), sUp_ne _ (by omega)]; simp
  have f4 : ∀ p, sBe (nPart P h m g B) p = if p = sP P then B else sBe P p := fun p => by unfold nPart sBe; rw [sUp_ne _ (by omega), sUp_at, sUp_ne _ (by omega), sUp_ne _ (by omega), sUp_ne _ (by omega)]; simp
  have eH : sH (nPart P h m g B) = sH P := by unfold sH; rw [w 0 (by decide)]
  refine ⟨by rw [eH, u0]; exact r1, by rw [eP]; exact u1, fun x hx => ?_, fun p hp => ?_, fun a b ha hb => ?_⟩
  · rw [eH] at hx
    unfold sWk sKy sOd
    rw [w 7 (by decide), w 8 (by decide), w 6 (by decide), u4 _ _ (by omega), u4 _ _ (by omega)]
    obtain ⟨a1, a2, a3⟩ := r3 x hx
    exact ⟨a1, a2, fun q hq => by rw [u4 _ _ (by omega)]; exact a3 q hq⟩
  · rw [eP] at hp
    rw [f9, f2, f3, f4]
    rcases (show p < sP P ∨ p = sP P by omega) with q | rfl
    · rw [if_neg (by omega), if_neg (by omega), if_neg (by omega), if_neg (by omega), u4 _ _ (by omega), u4 _ _ (by omega), u4 _ _ (by omega), u4 _ _ (by omega)]
      exact r4 p q
    · rw [if_pos rfl, if_pos rfl, if_pos rfl, if_pos rfl]
      exact ⟨v18, v19, v20, v21⟩
  · rw [fl0_cong (w 27 (by decide)), u4 _ _ (by omega)]
    exact r5 a b ha hb
set_option maxHeartbeats 2000000 in
theorem c_learnPart {σ : nh_S} {T : Nat → Nat} {n a s o : Nat} {P : SP} (ho : isP o) (hg : gd σ T n a) (hs : σ.1 1 2 = nI s) (hC : CQ σ o P) (hW : WQ P) {Q : Option Value → nh_S → Prop}
    (hQb : ∀ z, tkPart T n P s a = .error z → ∀ τ, frO o 21 σ τ → bq τ T n z → τ.1 o 0 = nI (sH P) → Q none τ)
    (hQo : ∀ P2 e, tkPart T n P s a = .ok (P2, e) → ∀ τ, frO o 21 σ τ → gd τ T n e → CQ τ o P2 → Q none τ) : nh_E kX3_learnPart 0 [some (.ref o), some (.ref 1)] [] σ Q := by
  have hn := ho.n
  have h9 := hW.1
  have h12 := hW.2.1
  refine sg_X3_learnPart_0 ho (pk_lt (sP P) 12 (fun c => ?_) (fun c => ?_) hC.2.1 rfl)
  · have badE : ∀ (υ : nh_S) (z : Nat × Nat), frO o 21 σ υ → bq υ T n z → υ.1 o 0 = nI (sH P) → tkPart T n P s a = .error z → nh_E kX6_endClause 0 [some (.ref 1)] [] υ (nh_qv fun τ19 => Q none (nh_si τ19 o 1 ((τ19.1 o 1) + 1))) := by
      intro υ z u1 u2 u3 u4
      refine c_endClause_f u2 (fun ρ r1 r2 => ⟨rfl, hQb z u4 _ ((u1.tr (r1.O o 21)).si _ _ (by omega)) (r2.so _ _ hn.1) ?_⟩)
      rw [bs_geti, if_neg (by omega), r1.2 o hn.1]
      exact u3
    have badW : ∀ (Y : Int32 → nh_S → Prop) (X1 : Int32) (υ : nh_S) (z : Nat × Nat), X1 = nI (sP P) → frO o 21 σ υ → bq υ T n z → υ.1 o 0 = nI (sH P) → tkPart T n P s a = .error z → nh_E kX6_takesWord 0 [some (.ref 1), some (.ref 903), none, none] [] υ (nh_qi fun r15 τ14 => (r15 = 0 → ((vp_in X1 12) ∧ nh_E kX6_endClause 0 [some (.ref 1)] [] (nh_wa τ14 (o + 21) (X1.toNatClampNeg) 0) (nh_qv fun τ19 => Q none (nh_si τ19 o 1 ((τ19.1 o 1) + 1))))) ∧ (¬ (r15 = 0) → Y r15 τ14)) := by
      intro Y X1 υ z hX u1 u2 u3 u4
      refine c_takesWord_f (t := 3) (by omega) u2 (fun ξ x1 x2 => ⟨_, rfl, fun _ => ⟨pk_in (sP P) 12 c hX, ?_⟩, fun q => absurd rfl q⟩)
      refine badE _ z ((u1.tr (x1.O o 21)).wa _ _ (by omega)) (x2.wa _ _ (by omega)) ?_ u4
      show ξ.1 o 0 = _
      rw [x1.2 o hn.1]
      exact u3
    have eT : tkPart T n P s a = rb (tkN T n 0 (sH P) a) (fun h e => rb (tkN T n 0 61 e) (fun m e2 => rb (tkN T n 0 100 e2) (fun g e3 => rb (tkOn T n (sP P) e3) (fun B e4 => rb (tkE T n e4) (fun _ e5 => .ok (nPart P h.1 m.1 g.1 B, e5)))))) := by unfold tkPart; rw [if_neg (by omega)]
    refine c_takeNumber (lo := 0) (hi := sH P) hg (by omega) (by omega) (by rw [hC.1]) (fun z hz τ t1 t2 => ⟨_, rfl, pk_in (sP P) 12 c hC.2.1, ?_⟩) (fun h e hh τ t1 t2 t3 => ⟨_, rfl, pk_in (sP P) 12 c hC.2.1, ?_⟩)
    · have e0 : τ.1 o 0 = nI (sH P) := by rw [t1.2 o hn.1]; exact hC.1
      have e1 : τ.1 o 1 = nI (sP P) := by rw [t1.2 o hn.1]; exact hC.2.1
      refine c_takeNumber_f (t2.wa _ _ (by omega)).1 _ _ ⟨_, rfl, pk_in (sP P) 12 c e1, ?_⟩
      refine c_takeNumber_f ((t2.wa _ _ (by omega)).wa _ _ (by omega)).1 _ _ ⟨_, rfl, pk_in (sP P) 12 c e1, ?_⟩
      exact badW _ _ _ z e1 ((((t1.O o 21).wa _ _ (by omega)).wa _ _ (by omega)).wa _ _ (by omega)) (((t2.wa _ _ (by omega)).wa _ _ (by omega)).wa _ _ (by omega)) e0 (by rw [eT, hz]; rfl)
    · have e0 : τ.1 o 0 = nI (sH P) := by rw [t1.2 o hn.1]; exact hC.1
      have e1 : τ.1 o 1 = nI (sP P) := by rw [t1.2 o hn.1]; exact hC.2.1
      rw [pk_cl (sP P) hC.2.1 (by omega)]
      have f1 : frO o 21 σ (nh_wa τ (o + 18) (sP P) (nI h.1)) := (t1.O o 21).wa _ _ (by omega)
      refine c_takeNumber (lo := 0) (hi := 61) (t2.wa _ _ (by omega)) (by omega) (by omega) (by decide) (fun z hz υ u1 u2 => ⟨_, rfl, pk_in (sP P) 12 c e1, ?_⟩) (fun m e2 hm υ u1 u2 u3 => ⟨_, rfl, pk_in (sP P) 12 c e1, ?_⟩)
      · have g0 : υ.1 o 0 = nI (sH P) := by rw [u1.2 o hn.1]; exact e0
        have g1 : υ.1 o 1 = nI (sP P) := by rw [u1.2 o hn.1]; exact e1
        refine c_takeNumber_f (u2.wa _ _ (by omega)).1 _ _ ⟨_, rfl, pk_in (sP P) 12 c g1, ?_⟩
        exact badW _ _ _ z g1 (((f1.tr (u1.O o 21)).wa _ _ (by omega)).wa _ _ (by omega)) ((u2.wa _ _ (by omega)).wa _ _ (by omega)) g0 (by rw [eT, hh, rb_ok, hz]; rfl)
      · have g0 : υ.1 o 0 = nI (sH P) := by rw [u1.2 o hn.1]; exact e0
        have g1 : υ.1 o 1 = nI (sP P) := by rw [u1.2 o hn.1]; exact e1
        rw [pk_cl (sP P) e1 (by omega)]
        have f2 : frO o 21 σ (nh_wa υ (o + 19) (sP P) (nI m.1)) := (f1.tr (u1.O o 21)).wa _ _ (by omega)
        refine c_takeNumber (lo := 0) (hi := 100) (u2.wa _ _ (by omega)) (by omega) (by omega) (by decide) (fun z hz ξ x1 x2 => ⟨_, rfl, pk_in (sP P) 12 c g1, ?_⟩) (fun g e3 hgn ξ x1 x2 x3 => ⟨_, rfl, pk_in (sP P) 12 c g1, ?_⟩)
        · have k0 : ξ.1 o 0 = nI (sH P) := by rw [x1.2 o hn.1]; exact g0
          have k1 : ξ.1 o 1 = nI (sP P) := by rw [x1.2 o hn.1]; exact g1
          exact badW _ _ _ z k1 ((f2.tr (x1.O o 21)).wa _ _ (by omega)) (x2.wa _ _ (by omega)) k0 (by rw [eT, hh, rb_ok, hm, rb_ok, hz]; rfl)
        · have k0 : ξ.1 o 0 = nI (sH P) := by rw [x1.2 o hn.1]; exact g0
          have k1 : ξ.1 o 1 = nI (sP P) := by rw [x1.2 o hn.1]; exact g1
          rw [pk_cl (sP P) g1 (by omega)]
          have f3 : frO o 21 σ (nh_wa ξ (o + 20) (sP P) (nI g.1)) := (f2.tr (x1.O o 21)).wa _ _ (by omega)
          -- what stands behind: its end
          have fin : ∀ (ρ : nh_S) (B e4 : Nat), frX (nh_wa ξ (o + 20) (sP P) (nI g.1)) ρ → gd ρ T n e4 → tkOn T n (sP P) e3 = .ok (B, e4) → nh_E kX6_endClause 0 [some (.ref 1)] [] (nh_wa ρ (o + 21) (sP P) (nI B)) (nh_qv fun τ19 => Q none (nh_si τ19 o 1 ((τ19.1 o 1) + 1))) := by
            intro ρ B e4 r1 r2 r3
            have q0 : ρ.1 o 0 = nI (sH P) := by rw [r1.2 o hn.1]; exact k0
            have q1 : ρ.1 o 1 = nI (sP P) := by rw [r1.2 o hn.1]; exact k1
            have f4 : frO o 21 σ (nh_wa ρ (o + 21) (sP P) (nI B)) := (f3.tr (r1.O o 21)).wa _ _ (by omega)
            refine c_endClause (r2.wa _ _ (by omega)) (fun z hz ω w1 w2 => ⟨rfl, hQb z ?_ _ ((f4.tr (w1.O o 21)).si _ _ (by omega)) (w2.so _ _ hn.1) ?_⟩) (fun e5 he ω w1 w2 => ⟨rfl, hQo (nPart P h.1 m.1 g.1 B) e5 ?_ _ ((f4.tr (w1.O o 21)).si _ _ (by omega)) (w2.so _ _ hn.1) ?_⟩)
            · rw [eT, hh, rb_ok, hm, rb_ok, hgn, rb_ok, r3, rb_ok, hz]; rfl
            · rw [bs_geti, if_neg (by omega), w1.2 o hn.1]; exact q0
            · rw [eT, hh, rb_ok, hm, rb_ok, hgn, rb_ok, r3, rb_ok, he]; rfl
            · have w1' : ω.1 o 1 = nI (sP P) := by rw [w1.2 o hn.1]; exact q1
              refine nPart_CQ (σ := σ) hC ?_ ?_ ?_ ?_ ?_ ?_ (fun c' j hc => ?_)
              · rw [bs_geti, if_neg (by omega), w1.2 o hn.1]
                show ρ.1 o 0 = _
                rw [q0, hC.1]
              · rw [bs_geti, if_pos ⟨rfl, rfl⟩, w1', nI_1]
              · show ω.2.1 _ _ = _
                rw [w1.1, bs_get, if_neg (by omega), r1.1, bs_get, if_neg (by omega), x1.1, bs_get, if_neg (by omega), u1.1, bs_get, if_pos ⟨rfl, rfl⟩]
              · show ω.2.1 _ _ = _
                rw [w1.1, bs_get, if_neg (by omega), r1.1, bs_get, if_neg (by omega), x1.1, bs_get, if_pos ⟨rfl, rfl⟩]
              · show ω.2.1 _ _ = _
                rw [w1.1, bs_get, if_neg (by omega), r1.1, bs_get, if_pos ⟨rfl, rfl⟩]
              · show ω.2.1 _ _ = _
                rw [w1.1, bs_get, if_pos ⟨rfl, rfl⟩]
              · show ω.2.1 _ _ = _
                rw [w1.1, bs_get, if_neg (by omega), r1.1, bs_get, if_neg (by omega), x1.1, bs_get, if_neg (by omega), u1.1, bs_get, if_neg (by omega), t1.1]
          refine c_takesWord (t := 3) (by omega) (x2.wa _ _ (by omega)) (fun hw ρ r1 r2 r3 => ⟨_, rfl, fun q => absurd q (by decide), fun _ => ?_⟩) (fun hw ρ r1 r2 => ⟨_, rfl, fun _ => ⟨pk_in (sP P) 12 c k1, ?_⟩, fun q => absurd rfl q⟩)
          · have q0 : ρ.1 o 0 = nI (sH P) := by rw [r1.2 o hn.1]; exact k0
            have q1 : ρ.1 o 1 = nI (sP P) := by rw [r1.2 o hn.1]; exact k1
            have eO : tkOn T n (sP P) e3 = tkQ T n (sP P) 12 0 (lte T n (sk T n e3)) := by unfold tkOn; rw [if_pos (show wd T n e3 [111, 110] = true from hw)]
            refine sg_X3_learnBehind_0 ho (c_behind ho (by omega) 12 0 0 _ ρ rfl r2 q1 (Nat.two_pow_pos _) (fun z r ω hz w1 w2 => ⟨_, rfl, pk_in (sP P) 12 c k1, ?_⟩) (fun B e4 ω hB w1 w2 => ⟨_, rfl, pk_in (sP P) 12 c k1, ?_⟩))
            · refine badE _ z (((f3.tr (r1.O o 21)).tr (w1.O o 21)).wa _ _ (by omega)) (w2.wa _ _ (by omega)) ?_ (by rw [eT, hh, rb_ok, hm, rb_ok, hgn, rb_ok, eO, hz]; rfl)
              show ω.1 o 0 = _
              rw [w1.2 o hn.1]
              exact q0
            · rw [pk_cl (sP P) k1 (by omega)]
              exact fin ω B e4 (r1.tr w1) w2 (by rw [eO]; exact hB)
          · rw [pk_cl (sP P) k1 (by omega)]
            exact fin ρ 0 _ r1 r2 (by unfold tkOn; rw [if_neg (show ¬ wd T n e3 [111, 110] = true from hw)])
  · rw [hs]
    exact c_blame (c := 3) hg (by omega) (by omega) (fun τ t1 t2 => ⟨rfl, hQb _ (by unfold tkPart; rw [if_pos c]) τ (t1.O o 21) t2 (by rw [t1.2 o hn.1]; exact hC.1)⟩)
/-- only rows of FAR have changed -/
def shf (o : Nat) (σ τ : nh_S) : Prop := τ.1 = σ.1 ∧ τ.2.2 = σ.2.2 ∧ ∀ k, (k < o + 9 ∨ o + 18 ≤ k) → τ.2.1 k = σ.2.1 k
theorem shf.rf (o : Nat) (σ : nh_S) : shf o σ σ := ⟨rfl, rfl, fun _ _ => rfl⟩
theorem shf.wa {o : Nat} {σ τ : nh_S} (h : shf o σ τ) {k : Nat} (i : Nat) (x : Int32) (hk : o + 9 ≤ k ∧ k < o + 18) : shf o σ (nh_wa τ k i x) := ⟨h.1, h.2.1, fun j hj => by rw [wa_ne _ _ _ (by omega)]; exact h.2.2 j hj⟩
theorem shf.O {o : Nat} {σ τ : nh_S} (h : shf o σ τ) : frO o 21 σ τ := ⟨fun k h1 h2 => ⟨by rw [h.1], h.2.2 k (by omega)⟩, h.2.1⟩
theorem shf.tx {o : Nat} {σ τ : nh_S} (ho : isP o) (h : shf o σ τ) {T : Nat → Nat} {n a : Nat} (g : tx σ T n a) : tx τ T n a := by
  have := ho.n
  exact ⟨by rw [h.1]; exact g.1, g.2.1, fun i hi => by rw [h.2.2 2 (by omega)]; exact g.2.2.1 i hi, by rw [h.1]; exact g.2.2.2.1, g.2.2.2.2⟩
theorem c_shorten_f {σ : nh_S} {o h : Nat} (ho : isP o) (hh : h ≤ 9) (h0 : σ.1 o 0 = nI h) {Q : Option Value → nh_S → Prop} (hQ : ∀ τ, shf o σ τ → Q none τ) : nh_E kX3_shortenWays 0 [some (.ref o), none, none, none] [] σ Q := by
  refine sg_X3_shortenWays_0 ho ?_
  refine nh_loop (α := nh_S) (fun m τ => nh_E kX3_shortenWays 2 [some (.ref o), some (.int (nI m)), none, none] [] τ Q) (fun _ τ => shf o σ τ) h ?_ ?_ h 0 σ (Nat.zero_add _) (shf.rf o σ)
  · intro τ t
    exact sg_X3_shortenWays_2 ho _ (pk_le h h (fun _ => hQ τ t) (fun c => by omega) (by rw [t.1]; exact h0) rfl)
  · intro m τ hm t ih
    refine sg_X3_shortenWays_2 ho _ (pk_le h m (fun c => by omega) (fun _ => ?_) (by rw [t.1]; exact h0) rfl)
    refine nh_loop (α := nh_S) (fun a τ => nh_E kX3_shortenWays 12 [some (.ref o), some (.int (nI m)), some (.int (nI a)), none] [] τ Q) (fun _ τ => shf o σ τ) h ?_ ?_ h 0 τ (Nat.zero_add _) t
    · intro υ u
      refine sg_X3_shortenWays_12 ho _ _ (pk_le h h (fun _ => ?_) (fun c => by omega) (by rw [u.1]; exact h0) rfl)
      rw [nI_1]
      exact ih υ u
    · intro a υ ha u ih2
      refine sg_X3_shortenWays_12 ho _ _ (pk_le h a (fun c => by omega) (fun _ => ?_) (by rw [u.1]; exact h0) rfl)
      refine nh_loop (α := nh_S) (fun b ρ => nh_E kX3_shortenWays 22 [some (.ref o), some (.int (nI m)), some (.int (nI a)), some (.int (nI b))] [] ρ Q) (fun _ ρ => shf o σ ρ) h ?_ ?_ h 0 υ (Nat.zero_add _) u
      · intro ρ r
        refine sg_X3_shortenWays_22 ho _ _ _ (pk_le h h (fun _ => ?_) (fun c => by omega) (by rw [r.1]; exact h0) rfl)
        rw [nI_1]
        exact ih2 ρ r
      · intro b ρ hb r ih3
        refine sg_X3_shortenWays_22 ho _ _ _ (pk_le h b (fun c => by omega) (fun _ => ⟨pk_in a 9 (by omega), pk_in b 9 (by omega), pk_in m 9 (by omega), ?_⟩) (by rw [r.1]; exact h0) rfl)
        rw [nI_1]
        exact ih3 _ (r.wa _ _ (by rw [pk_cl a rfl (by omega)]; omega))
set_option maxHeartbeats 1000000 in
theorem c_shorten {σ : nh_S} {o : Nat} {P : SP} (ho : isP o) (hW : WQ P) (h0 : σ.1 o 0 = nI (sH P)) (hF : ∀ a b, a < 9 → b < 9 → σ.2.1 (o + 9 + a) b = nI (fl P 0 a b)) {Q : Option Value → nh_S → Prop} (hQ : ∀ τ, shf o σ τ → (∀ a b, a < sH P → b < sH P → τ.2.1 (o + 9 + a) b = nI (fl P (sH P) a b)) → Q none τ) : nh_E kX3_shortenWays 0 [some (.ref o), none, none, none] [] σ Q := by
  have h9 := hW.1
  refine sg_X3_shortenWays_0 ho ?_
  refine nh_loop (α := nh_S) (fun m τ => nh_E kX3_shortenWays 2 [some (.ref o), some (.int (nI m)), none, none] [] τ Q) (fun m τ => shf o σ τ ∧ ∀ x y, x < sH P → y < sH P → τ.2.1 (o + 9 + x) y = nI (fl P m x y)) (sH P) ?_ ?_ (sH P) 0 σ (Nat.zero_add _) ⟨shf.rf o σ, fun x y hx hy => hF x y (by omega) (by omega)⟩
  · rintro τ ⟨t, t2⟩
    exact sg_X3_shortenWays_2 ho _ (pk_le (sH P) (sH P) (fun _ => hQ τ t t2) (fun c => by omega) (by rw [t.1]; exact h0) rfl)
  · rintro m τ hm ⟨t, t2⟩ ih
    refine sg_X3_shortenWays_2 ho _ (pk_le (sH P) m (fun c => by omega) (fun _ => ?_) (by rw [t.1]; exact h0) rfl)
    refine nh_loop (α := nh_S) (fun a τ => nh_E kX3_shortenWays 12 [some (.ref o), some (.int (nI m)), some (.int (nI a)), none] [] τ Q) (fun a τ => shf o σ τ ∧ ∀ x y, x < sH P → y < sH P → τ.2.1 (o + 9 + x) y = nI (if x < a then fl P (m + 1) x y else fl P m x y)) (sH P) ?_ ?_ (sH P) 0 τ (Nat.zero_add _) ⟨t, fun x y hx hy => by rw [if_neg (by omega)]; exact t2 x y hx hy⟩
    · rintro υ ⟨u, u2⟩
      refine sg_X3_shortenWays_12 ho _ _ (pk_le (sH P) (sH P) (fun _ => ?_) (fun c => by omega) (by rw [u.1]; exact h0) rfl)
      rw [nI_1]
      exact ih υ ⟨u, fun x y hx hy => by rw [u2 x y hx hy, if_pos hx]⟩
    · rintro a υ ha ⟨u, u2⟩ ih2
      refine sg_X3_shortenWays_12 ho _ _ (pk_le (sH P) a (fun c => by omega) (fun _ => ?_) (by rw [u.1]; exact h0) rfl)
      refine nh_loop (α := nh_S) (fun b ρ => nh_E kX3_shortenWays 22 [some (.ref o), some (.int (nI m)), some (.int (nI a)), some (.int (nI b))] [] ρ Q) (fun b ρ => shf o σ ρ ∧ ∀ x y, x < sH P → y < sH P → ρ.2.1 (o + 9 + x) y = nI (if x < a ∨ (x = a ∧ y < b) then fl P (m + 1) x y else fl P m x y)) (sH P) ?_ ?_ (sH P) 0 υ (Nat.zero_add _) ⟨u, fun x y hx hy => by rw [u2 x y hx hy]; congr 1; by_cases q : x < a; { rw [if_pos q, if_pos (Or.inl q)] }; { rw [if_neg q, if_neg (by omega)] }⟩
      · rintro ρ ⟨r, r2⟩
        refine sg_X3_shortenWays_22 ho _ _ _ (pk_le (sH P) (sH P) (fun _ => ?_) (fun c => by omega) (by rw [r.1]; exact h0) rfl)
        rw [nI_1]
        refine ih2 ρ ⟨r, fun x y hx hy => ?_⟩
        rw [r2 x y hx hy]
        by_cases q : x < a + 1
        · rw [if_pos q, if_pos (by omega)]
        · rw [if_neg q, if_neg (by omega)]
      · rintro b ρ hb ⟨r, r2⟩ ih3
        refine sg_X3_shortenWays_22 ho _ _ _ (pk_le (sH P) b (fun c => by omega) (fun _ => ⟨pk_in a 9 (by omega), pk_in b 9 (by omega), pk_in m 9 (by omega), ?_⟩) (by rw [r.1]; exact h0) rfl)
        have v1 : ρ.2.1 (o + 9 + a) m = nI (fl P m a m) := by
          rw [r2 a m ha hm, fl_row]
          split <;> rfl
        have v2 : ρ.2.1 (o + 9 + m) b = nI (fl P m m b) := by
          rw [r2 m b hm hb, fl_col]
          split <;> rfl
        have v3 : ρ.2.1 (o + 9 + a) b = nI (fl P m a b) := by rw [r2 a b ha hb, if_neg (by omega)]
        have b1 := fl_le hW m a m
        have b2 := fl_le hW m m b
        have b3 := fl_le hW m a b
        rw [nI_1, pk_cl a rfl (by omega), pk_cl b rfl (by omega), pk_cl m rfl (by omega), v1, v2, v3, nI_add]
        refine ih3 _ ⟨r.wa _ _ (by omega), fun x y hx hy => ?_⟩
        rw [bs_get]
        by_cases e : x = a ∧ y = b
        · obtain ⟨rfl, rfl⟩ := e
          rw [if_pos ⟨rfl, rfl⟩, if_pos (show x < x ∨ (x = x ∧ y < y + 1) by omega), fl]
          have hlt := nI_ltI (a := fl P m x m + fl P m m y) (b := fl P m x y) (by omega) (by omega)
          by_cases c : fl P m x y ≤ fl P m x m + fl P m m y
          · rw [if_pos c, if_neg (fun q => by have := hlt.mp q; omega)]
          · rw [if_neg c, if_pos (hlt.mpr (by omega))]
        · rw [if_neg (by omega), r2 x y hx hy]
          by_cases q : x < a ∨ (x = a ∧ y < b)
          · rw [if_pos q, if_pos (by omega)]
          · rw [if_neg q, if_neg (by omega)]
theorem c_forget {σ : nh_S} {o : Nat} (ho : isP o) {Q : Option Value → nh_S → Prop} (hQ : ∀ τ, frO o 21 σ τ → τ.1 1 = σ.1 1 → CQ τ o P0 → Q none τ) : nh_E kX3_forget 0 [some (.ref o), none] [] σ Q := by
  have hn := ho.n
  refine sg_X3_forget_0 ho ?_
  refine nh_loop (α := nh_S) (fun a τ => nh_E kX3_forget 12 [some (.ref o), some (.int (nI a))] [] τ Q) (fun a τ => frO o 21 σ τ ∧ τ.1 1 = σ.1 1 ∧ τ.1 o 0 = 0 ∧ τ.1 o 1 = 0 ∧ ∀ x y, x < a → y < 9 → τ.2.1 (o + 9 + x) y = nI (fl P0 0 x y)) 9 ?_ ?_ 9 0 _ (Nat.zero_add _) ⟨((frO.rf o 21 σ).si _ _ (by omega)).si _ _ (by omega), by rw [si_neK _ _ _ (by omega), si_neK _ _ _ (by omega)], by rw [bs_geti, if_neg (by omega), bs_geti, if_pos ⟨rfl, rfl⟩], by rw [bs_geti, if_pos ⟨rfl, rfl⟩], fun x y hx => by omega⟩
  · rintro τ ⟨t1, t2, t3, t4, t5⟩
    refine sg_X3_forget_12 ho _ (pk_le 9 9 (fun _ => hQ τ t1 t2 ⟨t3, t4, fun h hh => absurd hh (Nat.not_lt_zero _), fun p hp => absurd hp (Nat.not_lt_zero _), fun a b ha hb => t5 a b ha hb⟩) (fun c => by omega))
  · rintro a τ ha ⟨t1, t2, t3, t4, t5⟩ ih
    have hin : vp_in (nI a) 9 := pk_in a 9 ha
    refine sg_X3_forget_12 ho _ (pk_le 9 a (fun c => by omega) (fun _ => ⟨hin, ?_⟩))
    have hsh := sP_r8 ho hin
    rw [nI_1]
    refine c_fill hsh (by omega) _ (fun υ u1 u2 u3 u4 => ⟨rfl, hin, ?_⟩)
    rw [pk_cl a rfl (by omega)] at u3 u4 ⊢
    refine ih _ ⟨⟨fun k h1 h2 => ⟨by show υ.1 k = _; rw [u1]; exact (t1.1 k h1 h2).1, by rw [wa_ne _ _ _ (by omega), u3 k (by omega)]; exact (t1.1 k h1 h2).2⟩, by show υ.2.2 = _; rw [u2]; exact t1.2⟩, by show υ.1 1 = _; rw [u1]; exact t2, by show υ.1 o 0 = _; rw [u1]; exact t3, by show υ.1 o 1 = _; rw [u1]; exact t4, fun x y hx hy => ?_⟩
    rw [bs_get, fl]
    rcases (show x < a ∨ x = a by omega) with q | rfl
    · rw [if_neg (by omega), u3 _ (by omega), t5 x y q hy, fl]
    · by_cases e : y = x
      · rw [if_pos ⟨rfl, e⟩, if_pos e.symm]; rfl
      · rw [if_neg (by omega), u4 y hy, if_neg (fun q => e q.symm), if_pos (show sWy P0 x y = 0 from rfl)]; rfl
