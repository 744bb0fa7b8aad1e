/-! THE CLASS: crier() -/
set_option maxHeartbeats 1000000 in
theorem c_crier {S : SP} {σ : nh_S} (hC : CR σ S) (hW : WF S) (x y z : Int32) {Q : Option Value → nh_S → Prop} (hQ : ∀ τ, CR τ S → Q (some (.int (aCrier S x y z))) τ) : nh_E kX8_crier 0 [some (.ref 0), some (.int x), some (.int y), some (.int z)] [] σ Q := by
  have h9 := hW.1.1
  have h12 := hW.1.2.1
  unfold aCrier at hQ
  refine sg_X8_crier_0 x y z ⟨hC.1.1, ?_⟩
  rw [hC.2.1.1, ix_cls (by omega), ix_cls (by omega)]
  rcases ix_cases x (n := sH S) (by omega) with ⟨fire, hfi, rfl, e⟩ | ⟨e, hx⟩
  · refine ⟨fun c => absurd ⟨fire, hfi, rfl⟩ c, fun _ => ?_⟩
    rcases ix_cases y (n := sH S) (by omega) with ⟨f, hf, rfl, e2⟩ | ⟨e2, hy⟩
    · rw [e, e2] at hQ
      dsimp only at hQ
      refine ⟨fun _ => ?_, fun c => absurd ⟨f, hf, rfl⟩ c⟩
      refine c_sendOut hC hW hf (fun c τ t1 => ⟨_, rfl, fun q => absurd rfl q, fun _ => ?_⟩) (fun c τ t1 t2 t3 t4 => ⟨_, rfl, fun _ => ?_, fun q => absurd q (by decide)⟩)
      · rw [if_pos c] at hQ
        exact hQ τ (hC.pr hW t1)
      · rw [if_neg (by omega)] at hQ
        have hCt := hC.pr hW t1
        have s25 := sc25.1
        refine ⟨hCt.1.1, ?_⟩
        refine sg_X0_search_0 hCt.1.1 isN_3 isG_17 _ ?_
        have B1 : (nh_si τ 25 2 (-1)).2 = τ.2 := rfl
        have B2 : (nh_si τ 25 2 (-1)).1 25 2 = -1 := by rw [bs_geti, if_pos ⟨rfl, rfl⟩]
        have B3 : (nh_si τ 25 2 (-1)).1 25 3 = nI f := by rw [bs_geti, if_neg (by omega)]; exact t2
        have B4 : (nh_si τ 25 2 (-1)).1 27 = τ.1 27 := si_neK _ _ _ (by omega)
        have B5 : prC τ (nh_si τ 25 2 (-1)) := (prC.rf τ).si _ _ s25
        generalize nh_si τ 25 2 (-1) = ω at B1 B2 B3 B4 B5 ⊢
        have g1 : rn (cr S f (sH S)).length 5040 (en (fun x => x) (cr S f (sH S)).length) = true := rn_all _ (by omega)
        have g2 : srch (cr S f (sH S)).length (evQ S f fire (cr S f (sH S)).length) 5040 (r0 S f) none = srB S fire f := by unfold srB; exact Eq.refl _
        have g3 : ω.1 25 2 = ot ((none : Option (Nat × (Nat → Nat))).map (·.1)) := by simp only [Option.map_none, ot]; exact B2
        have g4 : ∀ x, x < (cr S f (sH S)).length → r0 S f x = r0 S f (dg (en (fun x => x) (cr S f (sH S)).length) x) ∧ dg (en (fun x => x) (cr S f (sH S)).length) x < (cr S f (sH S)).length := fun x hx => by rw [dg_en (fun x hx => by omega) x hx]; exact ⟨rfl, hx⟩
        refine c_search_go hCt hW hfi hf rfl c (fun υ v s u1 u2 u3 u4 u5 => ⟨rfl, ?_⟩) 5040 0 (en (fun x => x) (cr S f (sH S)).length) (r0 S f) none ω rfl g1 g4 (r0_ok S f) B5 B3 (by rw [B4]; exact t3) (fun x hx => by rw [B1]; exact t4 x hx) g3 (fun v s q => by cases q) g2
        have hCu := hCt.pr hW u1
        rw [u2] at hQ
        have hq := hQ υ hCu
        dsimp only
        rw [u4, u3]
        by_cases ez : z = -1
        · rw [if_pos ez] at hq
          exact ⟨fun q => absurd ez q, fun _ => hq⟩
        · rw [if_neg ez] at hq
          refine ⟨fun _ => ?_, fun q => absurd q ez⟩
          rcases ix_cases z (n := (cr S f (sH S)).length) (by omega) with ⟨i, hi, rfl, e3⟩ | ⟨e3, hz⟩
          · rw [e3] at hq
            refine ⟨fun q => absurd q (nI_pos (by omega)), fun _ => pk_lt i (cr S f (sH S)).length (fun _ => ⟨pk_in i 7 (by omega), ?_⟩) (fun c2 => by omega)⟩
            rw [pk_cl i rfl (by omega), u5 i hi]
            exact hq
          · rw [e3] at hq
            refine ⟨fun _ => hq, fun c1 => ⟨fun c2 => ?_, fun _ => hq⟩⟩
            exfalso
            exact ((ix_cls (x := z) (n := (cr S f (sH S)).length) (by omega)).mpr (fun ⟨h, hh, q⟩ => hz h hh q)).elim c1 (fun q2 => q2 c2)
    · rw [e, e2] at hQ
      exact ⟨fun c => absurd (fun ⟨h, hh, q⟩ => hy h hh q) c, fun _ => hQ σ hC⟩
  · rw [e] at hQ
    exact ⟨fun _ => hQ σ hC, fun c => absurd (fun ⟨h, hh, q⟩ => hx h hh q) c⟩
