/-! THE CLASS: the crier's search -/
set_option maxHeartbeats 1000000 in
theorem c_round {S : SP} {σ τ : nh_S} (hC : CR σ S) (hW : WF S) {fire f n : Nat} {r : Nat → Nat} (hfi : fire < sH S) (hf : f < sH S) (h7 : n ≤ 7) (hok : okr S f n r) (hp : prC σ τ) (h27 : τ.1 27 0 = nI n) (h29 : ∀ x, x < n → τ.2.1 28 x = nI f ∧ τ.2.1 29 x = nI (r x)) {Z : Int32 → nh_S → Prop}
    (hZ : ∀ ξ, prC σ ξ → ξ.1 25 = τ.1 25 → ξ.1 27 = τ.1 27 → ξ.2.1 26 = τ.2.1 26 → ξ.2.1 28 = τ.2.1 28 → ξ.2.1 29 = τ.2.1 29 → (∀ v, stO S (cmQ S n r f (sAw S) fire) (full S) = some v → v ≤ 1000720) → Z (ot (stO S (cmQ S n r f (sAw S) fire) (full S))) ξ) :
    nh_E kX7_run 0 [some (.ref 12), some (.ref (σ.2.2 0 11)), some (.ref 27), some (.int (nI f)), some (.int (nI (sAw S))), none] [] τ (nh_qv fun τ2 => nh_E kX5_gather 0 [some (.ref 17), some (.ref (σ.2.2 0 11)), some (.ref 12), some (.ref (3 + 1)), some (.int (nI fire)), none] [] τ2 (nh_qv fun τ5 => nh_E kX5_run 0 [some (.ref 17), some (.ref (σ.2.2 0 11)), some (.int ((1 <<< ((τ5.1 (σ.2.2 0 11) 1) &&& 31)) - 1)), none] [] τ5 (nh_qi fun r9 τ8 => Z r9 τ8))) := by
  have h9 := hW.1.1
  have h12 := hW.1.2.1
  have ho := hC.1.1
  have hL : isL 27 := by unfold isL; omega
  have hCt := hC.pr hW hp
  have eo : τ.2.2 0 11 = σ.2.2 0 11 := by rw [hp.2]
  have hCo : CRc τ (σ.2.2 0 11) S := by rw [← eo]; exact hCt.2.1
  have hPl : CRp τ 27 n (fun _ => f) r := ⟨h27, fun x hx => h29 x hx⟩
  refine c_run (pa := fun _ => f) (pb := r) (n := n) ho hL hCo hW.1 hPl (okr_Pl hf hok) (by omega) hf (aw_lt hW) (fun υ u1 u2 u3 => ⟨rfl, ?_⟩)
  have hpu : prC σ υ := hp.tr (u1.pr (by intro k hk; simp at hk; unfold sc; omega))
  have hCu := hC.pr hW hpu
  have hCou : CRc υ (σ.2.2 0 11) S := by rw [← (show υ.2.2 0 11 = σ.2.2 0 11 by rw [hpu.2])]; exact hCu.2.1
  have hkp : ∀ p, p < sP S → υ.2.1 (3 + 1) p = nI (sKp S p) ∧ sKp S p < sH S := fun p hp => ⟨(hCu.2.2.1.1 p hp).1, (hW.2.1.1 p hp).1⟩
  have hsh : shC[3 + 1]? = some (.inl (.int, 12, none)) := sN_1 isN_3
  refine c_gather (kp := sKp S) isG_17 ho hsh (by omega) hCou hW.1 u2 u3 hkp hfi (fun ρ r1 r2 => ⟨rfl, ?_⟩)
  have hpr : prC σ ρ := hpu.tr (r1.pr (by intro k hk; simp at hk; unfold sc; omega))
  have hCr := hC.pr hW hpr
  have hCor : CRc ρ (σ.2.2 0 11) S := by rw [← (show ρ.2.2 0 11 = σ.2.2 0 11 by rw [hpr.2])]; exact hCr.2.1
  have hcb : ∀ p v, p < sP S → cmQ S n r f (sAw S) fire p = some v → v ≤ 1000000 := fun p v hp hv => arr_bd hW u3 hfi (hW.2.1.1 p hp).1 hv
  dsimp only
  rw [hCor.2.1, bs_full (by omega)]
  have r2' : ∀ p, p < sP S → ρ.2.1 (17 + 1) p = ot (cmQ S n r f (sAw S) fire p) := r2
  refine c_raise (m := full S) (cm := cmQ S n r f (sAw S) fire) isG_17 ho hCor hW.1 (by have := full_lt hW; omega) r2' hcb (full_clo hW) (fun ξ x1 _ _ => ⟨_, rfl, ?_⟩)
  have hpx : prC σ ξ := hpr.tr (x1.pr (by intro k hk; simp at hk; unfold sc; omega))
  refine hZ ξ hpx ?_ ?_ ?_ ?_ ?_ (fun v hv => stO_bd (m := full S) hW hcb v hv)
  · rw [(x1.1 25 (by decide)).1, (r1.1 25 (by decide)).1, (u1.1 25 (by decide)).1]
  · rw [(x1.1 27 (by decide)).1, (r1.1 27 (by decide)).1, (u1.1 27 (by decide)).1]
  · rw [(x1.1 26 (by decide)).2, (r1.1 26 (by decide)).2, (u1.1 26 (by decide)).2]
  · rw [(x1.1 28 (by decide)).2, (r1.1 28 (by decide)).2, (u1.1 28 (by decide)).2]
  · rw [(x1.1 29 (by decide)).2, (r1.1 29 (by decide)).2, (u1.1 29 (by decide)).2]
set_option maxHeartbeats 2000000 in
theorem c_search_go {S : SP} {σ : nh_S} (hC : CR σ S) (hW : WF S) {fire f n : Nat} (hfi : fire < sH S) (hf : f < sH S) (hn : (cr S f (sH S)).length = n) (h7 : n ≤ 7) {Q : Option Value → nh_S → Prop}
    (hQ : ∀ τ v s, prC σ τ → srB S fire f = some (v, s) → τ.1 25 2 = nI v → τ.1 27 0 = nI n → (∀ x, x < n → τ.2.1 26 x = nI (s x)) → Q none τ) :
    ∀ (fu i m : Nat) (r : Nat → Nat) (b : Option (Nat × (Nat → Nat))) (τ : nh_S), fu + i = 5040 → rn n fu m = true → (∀ x, x < n → r x = r0 S f (dg m x) ∧ dg m x < n) → okr S f n r → prC σ τ → τ.1 25 3 = nI f → τ.1 27 0 = nI n → (∀ x, x < n → τ.2.1 28 x = nI f ∧ τ.2.1 29 x = nI (r x)) → τ.1 25 2 = ot (b.map (·.1)) → (∀ v s, b = some (v, s) → v ≤ 1000720 ∧ ∀ x, x < n → τ.2.1 26 x = nI (s x)) → srch n (evQ S f fire n) fu r b = srB S fire f →
      nh_E kX0_search 8 [some (.ref 25), some (.ref (σ.2.2 0 11)), some (.ref 3), some (.ref 12), some (.ref 17), some (.int (nI fire)), some (.int (nI i)), none] [] τ Q := by
  have h9 := hW.1.1
  have h12 := hW.1.2.1
  obtain ⟨s25, s26, s27, s28, s29⟩ := sc25
  have ho := hC.1.1
  have hL : isL 27 := by unfold isL; omega
  intro fu
  induction fu with
  | zero => intro i m r b τ _ h; cases h
  | succ fu ih =>
    intro i m r b τ hfu hrn hrd hok hp hf3 h27 h29 hb2 hb hs
    have hCt := hC.pr hW hp
    have eo : τ.2.2 0 11 = σ.2.2 0 11 := by rw [hp.2]
    have hCo : CRc τ (σ.2.2 0 11) S := by rw [← eo]; exact hCt.2.1
    -- behind a round: the next
    have aft : ∀ υ v s, prC σ υ → bst (evQ S f fire n) r b = some (v, s) → v ≤ 1000720 → υ.1 25 2 = nI v → υ.1 25 3 = nI f → υ.1 27 0 = nI n → (∀ x, x < n → υ.2.1 28 x = nI f ∧ υ.2.1 29 x = nI (r x)) → (∀ x, x < n → υ.2.1 26 x = nI (s x)) →
        nh_E kX0_turnToNext 0 [some (.ref 25), none, none, none, none, none, none] [] υ (nh_qi fun r14 τ13 => (¬ (r14 = 0) → (nh_E kX0_search 8 [some (.ref 25), some (.ref (σ.2.2 0 11)), some (.ref 3), some (.ref 12), some (.ref 17), some (.int (nI fire)), some (.int (nI i + 1)), none] [] τ13 Q)) ∧ (r14 = 0 → (Q none τ13))) := by
      intro υ v s hpu hbs hv u2 u3 u27 u29 u26
      rw [srch, hbs] at hs
      have hmap := nx_map (n := n) (r := r) (d := dg m) (c := r0 S f) hrd (fun a b ha hb => r0_up (by rw [hn]; exact ha) (by rw [hn]; exact hb))
      rw [rn] at hrn
      unfold nst at hrn
      refine c_turnToNext (by omega) (fun x hx => by have := (hok.1 x hx).1; omega) u27 (fun x hx => (u29 x hx).2) (fun e => ⟨_, rfl, fun q => absurd rfl q, fun _ => ?_⟩) (fun r' e τ3 v1 v2 => ⟨_, rfl, fun _ => ?_, fun q => absurd q (by decide)⟩)
      · rw [e] at hs
        exact hQ υ v s hpu hs.symm u2 u27 u26
      · rw [e] at hs
        have hpv : prC σ τ3 := hpu.tr (v1.pr (by intro k hk; simp at hk; unfold sc; omega))
        cases hd : nx n (dg m) with
        | none => rw [hmap.1 hd] at e; cases e
        | some d' =>
          rw [hd] at hrn
          obtain ⟨r2, e2, e3⟩ := hmap.2 d' hd
          rw [e] at e2
          cases e2
          have hd8 : ∀ x, x < n → d' x < 8 := fun x hx => by have := (e3 x hx).2; omega
          rw [nI_1]
          refine ih (i + 1) (en d' n) r' (some (v, s)) τ3 (by omega) hrn (fun x hx => ?_) (okr_nx hok e) hpv (by rw [(v1.1 25 (by decide)).1]; exact u3) (by rw [(v1.1 27 (by decide)).1]; exact u27) (fun x hx => ⟨by rw [(v1.1 28 (by decide)).2]; exact (u29 x hx).1, v2 x hx⟩) (by rw [(v1.1 25 (by decide)).1, u2]; rfl) (fun v' s' q => ?_) hs
          · rw [dg_en hd8 x hx]
            exact e3 x hx
          · cases q
            exact ⟨hv, fun x hx => by rw [(v1.1 26 (by decide)).2]; exact u26 x hx⟩
    have hev0 : evQ S f fire n r = (stO S (cmQ S n r f (sAw S) fire) (full S)).getD 500 := rfl
    have i5 : (5040 : Int32) = nI 5040 := rfl
    refine sg_X0_search_8 ho isN_3 isG_17 _ _ (pk_le 5040 i (fun c => by omega) (fun _ => ?_) i5 rfl)
    rw [hf3, hCt.2.2.1.2.1]
    refine c_round hC hW hfi hf h7 hok hp h27 h29 (fun ξ hpx k25 k27 k26 k28 k29 hst => ?_)
    rw [ot_counted (fun v hv => by have := hst v hv; omega), ← hev0, k25, k27, hb2, h27, pk_cl n rfl (by omega)]
    have hev : evQ S f fire n r ≤ 1000720 := by
      rw [hev0]
      cases hs : stO S (cmQ S n r f (sAw S) fire) (full S) with
      | none => simp
      | some v => exact hst v hs
    have hbnd : ¬ (0 : Int32) < 0 ∧ ¬ (0 : Int32) < 0 ∧ ¬ nI n < 0 ∧ (0 : Int32).toNatClampNeg + n ≤ 20 ∧ (0 : Int32).toNatClampNeg + n ≤ 7 := ⟨by decide, by decide, nI_pos (by omega), by have : (0 : Int32).toNatClampNeg = 0 := rfl; omega, by have : (0 : Int32).toNatClampNeg = 0 := rfl; omega⟩
    -- a better round is taken down
    have copy : bst (evQ S f fire n) r b = some (evQ S f fire n r, r) → nh_E kX0_turnToNext 0 [some (.ref 25), none, none, none, none, none, none] [] (nh_cp (nh_si ξ 25 2 (nI (evQ S f fire n r))) 29 26 ((0 : Int32).toNatClampNeg) ((0 : Int32).toNatClampNeg) n) (nh_qi fun r14 τ13 => (¬ (r14 = 0) → (nh_E kX0_search 8 [some (.ref 25), some (.ref (σ.2.2 0 11)), some (.ref 3), some (.ref 12), some (.ref 17), some (.int (nI fire)), some (.int (nI i + 1)), none] [] τ13 Q)) ∧ (r14 = 0 → (Q none τ13))) := by
      intro hbs
      rw [show (0 : Int32).toNatClampNeg = 0 from rfl]
      have B1 : (nh_cp (nh_si ξ 25 2 (nI (evQ S f fire n r))) 29 26 0 0 n).1 = (nh_si ξ 25 2 (nI (evQ S f fire n r))).1 := rfl
      have B2 : ∀ k x, (nh_cp (nh_si ξ 25 2 (nI (evQ S f fire n r))) 29 26 0 0 n).2.1 k x = if k = 26 ∧ 0 ≤ x ∧ x < 0 + n then ξ.2.1 29 (0 + (x - 0)) else ξ.2.1 k x := fun k x => by rw [bs_cp]; rfl
      have B3 : prC σ (nh_cp (nh_si ξ 25 2 (nI (evQ S f fire n r))) 29 26 0 0 n) := (hpx.si _ _ s25).cp _ _ _ s26
      generalize nh_cp (nh_si ξ 25 2 (nI (evQ S f fire n r))) 29 26 0 0 n = ω at B1 B2 B3 ⊢
      refine aft ω _ r B3 hbs hev ?_ ?_ ?_ (fun x hx => ⟨?_, ?_⟩) (fun x hx => ?_)
      · rw [B1, bs_geti, if_pos ⟨rfl, rfl⟩]
      · rw [B1, bs_geti, if_neg (by omega), k25]
        exact hf3
      · rw [B1, bs_geti, if_neg (by omega), k27]
        exact h27
      · rw [B2, if_neg (by omega), k28]
        exact (h29 x hx).1
      · rw [B2, if_neg (by omega), k29]
        exact (h29 x hx).2
      · rw [B2, if_pos ⟨rfl, by omega, by omega⟩, show 0 + (x - 0) = x by omega, k29]
        exact (h29 x hx).2
    cases b with
    | none => exact ⟨fun _ => ⟨hbnd, copy rfl⟩, fun q => absurd rfl q⟩
    | some y =>
      obtain ⟨v, s⟩ := y
      obtain ⟨hv, h26b⟩ := hb v s rfl
      refine ⟨fun c => absurd c (ot_m1 (v := v) (by omega)), fun _ => ?_⟩
      refine pk_le v (evQ S f fire n r) (fun c => ?_) (fun c => ⟨hbnd, copy (by unfold bst; dsimp only; rw [if_pos c])⟩)
      exact aft ξ v s hpx (by unfold bst; dsimp only; rw [if_neg (by omega)]) hv (by rw [k25]; exact hb2) (by rw [k25]; exact hf3) (by rw [k27]; exact h27) (fun x hx => ⟨by rw [k28]; exact (h29 x hx).1, by rw [k29]; exact (h29 x hx).2⟩) (fun x hx => by rw [k26]; exact h26b x hx)
