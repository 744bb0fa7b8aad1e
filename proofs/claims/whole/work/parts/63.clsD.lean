/-! THE CLASS: waking, all rounds -/
theorem take_mem {L : List Nat} {i a : Nat} (hd : L.Nodup) (h : L[i]? = some a) : a ∉ L.take i := by
  intro q
  have hi : i < L.length := by
    apply Classical.byContradiction
    intro z
    rw [List.getElem?_eq_none (by omega)] at h
    cases h
  obtain ⟨j, hj, e⟩ := List.mem_iff_getElem.mp q
  rw [List.length_take] at hj
  rw [List.getElem_take] at e
  rw [List.getElem?_eq_getElem hi] at h
  have hp := List.pairwise_iff_getElem.mp hd j i (by omega) hi (by omega)
  injection h with h
  exact hp (e.trans h.symm)
theorem take_succ_mem {L : List Nat} {i a x : Nat} (h : L[i]? = some a) : x ∈ L.take (i + 1) ↔ x ∈ L.take i ∨ x = a := by
  rw [List.take_add_one, h, List.mem_append]
  simp
set_option maxHeartbeats 1000000 in
theorem c_run {S : SP} {σ : nh_S} {o1 o2 n : Nat} {pa pb : Nat → Nat} (ho1 : isP o1) (ho2 : isL o2) (hC : CRc σ o1 S) (hW : WFc S) (hP : CRp σ o2 n pa pb) (hpl : Pl (sH S) n pa pb) (hn : n ≤ 20) {f awm : Nat} (hf : f < sH S) (haw : awm < 2 ^ 31) {Q : Option Value → nh_S → Prop}
    (hQ : ∀ τ, frC [12, 13, 14, 15, 16] σ τ → WK τ S (fw S n pa pb f awm.testBit) → bdW S (fw S n pa pb f awm.testBit) → Q none τ) :
    nh_E kX7_run 0 [some (.ref 12), some (.ref o1), some (.ref o2), some (.int (nI f)), some (.int (nI awm)), none] [] σ Q := by
  have h9 := hW.1
  have d1 := ho1
  unfold isP at d1
  have d2 := ho2
  unfold isL at d2
  have hfar : ∀ x y, x < sH S → y < sH S → sFar S x y ≤ 500 := fun x y hx hy => (hW.2.2.2.2 x y hx hy).1
  have hwk : ∀ h, h < sH S → sWk S h ≤ 60 ∧ sKy S h ≤ 60 := fun h hh => ⟨(hW.2.2.2.1 h hh).1, (hW.2.2.2.1 h hh).2.1⟩
  have hf1 : ∀ x y, x < sH S → y < sH S → x ≠ y → 1 ≤ sFar S x y := fun x y hx hy => (hW.2.2.2.2 x y hx hy).2.2
  have hgl : ∀ a, ∀ x ∈ rl pa pb a n, x < sH S := fun a x hx => by
    obtain ⟨i, i1, -, i3⟩ := rl_mem.mp hx
    rw [← i3]
    exact (hpl.1 i i1).2.1
  have hll : ∀ a, (rl pa pb a n).length ≤ 20 := fun a => Nat.le_trans (rl_len _) hn
  have fr_o : ∀ {τ : nh_S}, frC [12, 13, 14, 15, 16] σ τ → CRc τ o1 S ∧ CRp τ o2 n pa pb := fun {τ} hfr => ⟨CRc_tr hC hW (hfr.1 o1 (by simp; omega)).1 (fun k h1 h2 => (hfr.1 k (by simp; omega)).2) (fun _ _ => rfl), CRp_tr hP (hfr.1 o2 (by simp; omega)).1 (hfr.1 (o2 + 1) (by simp; omega)).2 (hfr.1 (o2 + 2) (by simp; omega)).2⟩
  have loop : ∀ (d i : Nat) (τ : nh_S) (L : List Nat) (W : Nat → Option Nat) (E : Nat → Option (Nat × Nat)), i + d = 9 → i ≤ L.length → frC [12, 13, 14, 15, 16] σ τ → QL τ S L W → WK τ S (W, E) → Inv S n pa pb f awm.testBit W (fun h => decide (h ∈ L.take i)) E → (∀ h v, h < sH S → W h = some v → v ≤ 12460 * i) → nh_E kX7_run 30 [some (.ref 12), some (.ref o1), some (.ref o2), some (.int (nI f)), some (.int (nI awm)), some (.int (nI i))] [] τ Q := by
    have fin : ∀ (τ : nh_S) (L : List Nat) (W : Nat → Option Nat) (E : Nat → Option (Nat × Nat)) (i : Nat), i ≤ 9 → L.length ≤ i → frC [12, 13, 14, 15, 16] σ τ → QL τ S L W → WK τ S (W, E) → Inv S n pa pb f awm.testBit W (fun h => decide (h ∈ L.take i)) E → (∀ h v, h < sH S → W h = some v → v ≤ 12460 * i) → Q none τ := by
      intro τ L W E i hi9 hi hfr hL hK hI hb
      have hfin := Fin_of hI (fun h hh hs => by rw [List.take_of_length_le hi]; exact decide_eq_true ((hL.2.2.2.2 h hh).mp hs))
      have heq := fw_eq hf1 hpl hfin
      refine hQ τ hfr ?_ ⟨fun h v hh hv => ?_, fun h v hh hv => ?_⟩
      · obtain ⟨k1, k2, k3⟩ := hK
        refine ⟨fun h hh => ?_, fun h hh => ?_, fun h hh => ?_⟩
        · rw [← (heq h hh).1]; exact k1 h hh
        · rw [← (heq h hh).1, ← (heq h hh).2]; exact k2 h hh
        · rw [← (heq h hh).1, ← (heq h hh).2]; exact k3 h hh
      · rw [← (heq h hh).1] at hv
        have := hb h v hh hv
        omega
      · rw [← (heq h hh).2] at hv
        obtain ⟨-, -, a, ha, -, t, wt, -, rfl⟩ := (hI.2.2.2 h hh v).mp hv
        have htb := hb a t ha wt
        obtain ⟨b1, b2, -, -⟩ := go_bd (f := f) (aw := awm.testBit) hfar hwk (rl pa pb a n) (fun _ => none) t a 0 1000000 (hgl a) ha (by have := hll a; omega) (fun h v hv => by cases hv) (Nat.two_pow_pos _)
        have := hll a
        exact ⟨by show (go S f awm.testBit _ _).2.1 ≤ _; omega, b2⟩
    intro d
    induction d with
    | zero =>
      intro i τ L W E hid hi hfr hL hK hI hb
      have hlen := nd_len hL.2.2.1 hL.2.2.2.1
      have ei : i = 9 := by omega
      subst ei
      have hl9 : L.length = 9 := by omega
      refine sg_X7_run_30 ho1 ho2 _ _ _ ?_
      rw [hL.1]
      exact pk_le L.length 9 (fun _ => fin τ L W E 9 (by omega) (by omega) hfr hL hK hI hb) (fun c => by omega)
    | succ d ih =>
      intro i τ L W E hid hi hfr hL hK hI hb
      have hlen := nd_len hL.2.2.1 hL.2.2.2.1
      refine sg_X7_run_30 ho1 ho2 _ _ _ ?_
      rw [hL.1]
      refine pk_le L.length i (fun c => fin τ L W E i (by omega) c hfr hL hK hI hb) (fun c => ⟨fun q => ?_, fun _ => ⟨pk_in i 9 (by omega), ?_⟩⟩)
      · exfalso
        rw [show (9 : Int32) = nI 9 from rfl, nI_leI (by omega) (by omega)] at q
        omega
      · obtain ⟨a, hLa⟩ : ∃ a, L[i]? = some a := ⟨_, List.getElem?_eq_getElem c⟩
        have haL : a ∈ L := List.mem_of_getElem? hLa
        have ha := hL.2.2.2.1 a haL
        obtain ⟨t, hWa⟩ := Option.isSome_iff_exists.mp ((hL.2.2.2.2 a ha).mpr haL)
        have hG : decide (a ∈ L.take i) = false := decide_eq_false (take_mem hL.2.2.1 hLa)
        have htb := hb a t ha hWa
        obtain ⟨hCt, hPt⟩ := fr_o hfr
        rw [pk_cl i rfl (by omega), hL.2.1 i a hLa, nI_1]
        refine c_goRound ho1 ho2 hCt hW hPt hpl hn hf haw (G := fun h => decide (h ∈ L.take i)) hI hL hK ha hG hWa (by omega) (fun υ M u1 u2 u3 => ⟨rfl, ?_⟩)
        have hI2 := Inv_go hpl (G := fun h => decide (h ∈ L.take i)) hI ha hG hWa
        refine ih (i + 1) υ (L ++ M) _ _ (by omega) (by rw [List.length_append]; omega) (hfr.tr u1) u2 u3 ?_ (fun h v hh hv => ?_)
        · have hg : (fun h => decide (h ∈ List.take (i + 1) (L ++ M))) = (fun h => decide (h ∈ L.take i) || decide (h = a)) := by
            funext h
            rw [List.take_append_of_le_length (by omega), Bool.eq_iff_iff, Bool.or_eq_true, decide_eq_true_iff, decide_eq_true_iff, decide_eq_true_iff, take_succ_mem hLa]
          rw [hg]
          exact hI2
        · rw [go_W _ _ _ _ _ _ (rl_nd hpl _ (Nat.le_refl _))] at hv
          cases q : tim S f awm.testBit (rl pa pb a n) t a h with
          | none => rw [q] at hv; have := hb h v hh hv; omega
          | some t1 =>
            rw [q] at hv
            dsimp only at hv
            by_cases c3 : h ≠ f ∧ awm.testBit h = false
            · rw [if_pos c3] at hv
              cases hv
              have hb2 := (go_bd (f := f) (aw := awm.testBit) hfar hwk (rl pa pb a n) (fun _ => none) t a 0 (t + 12460) (hgl a) ha (by have := hll a; omega) (fun h v hv => by cases hv) (Nat.two_pow_pos _)).2.2.1 h (t1 + sWk S h) (by
                rw [go_W _ _ _ _ _ _ (rl_nd hpl _ (Nat.le_refl _)), q]
                dsimp only
                rw [if_pos c3])
              omega
            · rw [if_neg c3] at hv
              have := hb h v hh hv
              omega
  refine sg_X7_run_0 ho1 ho2 _ _ ?_
  refine c_fill (a0 := 13) (n0 := 9) rfl (by omega) _ (fun τ t1 t2 t3 t4 => ⟨rfl, ?_⟩)
  refine c_fill (a0 := 14) (n0 := 9) rfl (by omega) _ (fun υ u1 u2 u3 u4 => ⟨rfl, ?_⟩)
  have hfr : frC [12, 13, 14, 15, 16] σ υ := ⟨fun k hk => by
    simp at hk
    exact ⟨by rw [u1, t1], by rw [u3 k (by omega), t3 k (by omega)]⟩, by rw [u2, t2]⟩
  refine c_rouse (S := S) (L := []) (W := fun _ => none) (E := fun _ => none) (v := 0) h9 ⟨by rw [bs_geti, if_pos ⟨rfl, rfl⟩]; rfl, fun k b hk => (by cases hk), (by simp), fun h hh => (by cases hh), fun h _ => (by simp)⟩ ⟨fun h hh => ?_, fun h hh => ?_, fun h hh => ⟨fun t q => (by cases q), fun _ y q => (by cases q)⟩⟩ hf rfl (fun ρ r1 r2 r3 => ⟨rfl, ?_⟩)
  · show υ.2.1 13 h = _
    rw [u3 13 (by omega)]
    exact t4 h (by omega)
  · exact u4 h (by omega)
  · have hI := Inv_0 S n pa pb f awm.testBit
    refine loop 9 0 ρ [f] _ _ rfl (by simp) ((hfr.si _ _ (by decide)).tr r1) r2 r3 ?_ (fun h v hh hv => ?_)
    · have e1 : upO (fun _ => none) f (some 0) = (fun h => if h = f then some 0 else none) := rfl
      have e2 : (fun h : Nat => decide (h ∈ List.take 0 [f])) = (fun _ => false) := by funext h; simp
      rw [e1, e2]
      exact hI
    · unfold upO at hv
      by_cases e : h = f
      · rw [if_pos e] at hv; cases hv; omega
      · rw [if_neg e] at hv; cases hv
theorem c_arrival {S : SP} {σ : nh_S} {o1 : Nat} (ho1 : isP o1) (hC : CRc σ o1 S) (hW : WFc S) {x : (Nat → Option Nat) × (Nat → Option (Nat × Nat))} (hK : WK σ S x) (hb : bdW S x) {h fire : Nat} (hh : h < sH S) (hfi : fire < sH S) {Q : Option Value → nh_S → Prop} (hQ : Q (some (.int (ot (arr S x fire h)))) σ) : nh_E kX7_arrival 0 [some (.ref 12), some (.ref o1), some (.int (nI h)), some (.int (nI fire))] [] σ Q := by
  have h9 := hW.1
  obtain ⟨k1, k2, k3⟩ := hK
  have e14 := k2 h hh
  obtain ⟨g1, g2⟩ := k3 h hh
  refine sg_X7_arrival_0 ho1 _ _ ⟨pk_in h 9 (by omega), ?_⟩
  rw [pk_cl h rfl (by omega), pk_cl fire rfl (by omega), e14]
  unfold arr at hQ
  cases hx : x.1 h with
  | some t =>
    rw [hx] at hQ
    dsimp only at hQ ⊢
    have hbt := hb.1 h t hh hx
    refine ⟨fun _ => ?_, fun q => absurd q (ot_m1 (by omega))⟩
    rw [g1 t hx, pk_cl h rfl (by omega), hC.2.2.2.1 h fire hh hfi, ot_some, nI_add]
    exact ⟨pk_in h 9 (by omega), pk_in fire 9 (by omega), hQ⟩
  | none =>
    rw [hx] at hQ
    dsimp only at hQ ⊢
    cases hy : x.2 h with
    | none =>
      rw [hy] at hQ
      exact ⟨fun q => absurd rfl q, fun _ => hQ⟩
    | some y =>
      rw [hy] at hQ
      obtain ⟨b1, b2⟩ := hb.2 h y hh hy
      have e15 := g2 hx y hy
      refine ⟨fun _ => ?_, fun q => absurd q (ot_m1 (v := y.1) (by omega))⟩
      rw [e15, pk_cl y.2 rfl (by omega), hC.2.2.2.1 y.2 fire b2 hfi]
      refine ⟨pk_in y.2 9 (by omega), pk_in fire 9 (by omega), ?_⟩
      show Q (some (.int (nI y.1 + nI (sFar S y.2 fire)))) σ
      rw [nI_add]
      exact hQ
