/-! THE CLASS: fires -/
/-- Integer.bitCount -/
def bcF (x0 : Int32) : Int32 := (((((((x0 - (((x0.toUInt32 >>> ((1 : Int32).toUInt32 &&& Int32.toUInt32 31)).toInt32) &&& 1431655765)) &&& 858993459) + ((((x0 - (((x0.toUInt32 >>> ((1 : Int32).toUInt32 &&& Int32.toUInt32 31)).toInt32) &&& 1431655765)).toUInt32 >>> ((2 : Int32).toUInt32 &&& Int32.toUInt32 31)).toInt32) &&& 858993459)) + (((((x0 - (((x0.toUInt32 >>> ((1 : Int32).toUInt32 &&& Int32.toUInt32 31)).toInt32) &&& 1431655765)) &&& 858993459) + ((((x0 - (((x0.toUInt32 >>> ((1 : Int32).toUInt32 &&& Int32.toUInt32 31)).toInt32) &&& 1431655765)).toUInt32 >>> ((2 : Int32).toUInt32 &&& Int32.toUInt32 31)).toInt32) &&& 858993459)).toUInt32 >>> ((4 : Int32).toUInt32 &&& Int32.toUInt32 31)).toInt32)) &&& 252645135) + (((((((x0 - (((x0.toUInt32 >>> ((1 : Int32).toUInt32 &&& Int32.toUInt32 31)).toInt32) &&& 1431655765)) &&& 858993459) + ((((x0 - (((x0.toUInt32 >>> ((1 : Int32).toUInt32 &&& Int32.toUInt32 31)).toInt32) &&& 1431655765)).toUInt32 >>> ((2 : Int32).toUInt32 &&& Int32.toUInt32 31)).toInt32) &&& 858993459)) + (((((x0 - (((x0.toUInt32 >>> ((1 : Int32).toUInt32 &&& Int32.toUInt32 31)).toInt32) &&& 1431655765)) &&& 858993459) + ((((x0 - (((x0.toUInt32 >>> ((1 : Int32).toUInt32 &&& Int32.toUInt32 31)).toInt32) &&& 1431655765)).toUInt32 >>> ((2 : Int32).toUInt32 &&& Int32.toUInt32 31)).toInt32) &&& 858993459)).toUInt32 >>> ((4 : Int32).toUInt32 &&& Int32.toUInt32 31)).toInt32)) &&& 252645135).toUInt32 >>> ((8 : Int32).toUInt32 &&& Int32.toUInt32 31)).toInt32)) + ((((((((x0 - (((x0.toUInt32 >>> ((1 : Int32).toUInt32 &&& Int32.toUInt32 31)).toInt32) &&& 1431655765)) &&& 858993459) + ((((x0 - (((x0.toUInt32 >>> ((1 : Int32).toUInt32 &&& Int32.toUInt32 31)).toInt32) &&& 1431655765)).toUInt32 >>> ((2 : Int32).toUInt32 &&& Int32.toUInt32 31)).toInt32) &&& 858993459)) + (((((x0 - (((x0.toUInt32 >>> ((1 : Int32).toUInt32 &&& Int32.toUInt32 31)).toInt32) &&& 1431655765)) &&& 858993459) + ((((x0 - (((x0.toUInt32 >>> ((1 : Int32).toUInt32 &&& Int32.toUInt32 31)).toInt32) &&& 1431655765)).toUInt32 >>> ((2 : Int32).toUInt32 &&& Int32.toUInt32 31)).toInt32) &&& 858993459)).toUInt32 >>> ((4 : Int32).toUInt32 &&& Int32.toUInt32 31)).toInt32)) &&& 252645135) + (((((((x0 - (((x0.toUInt32 >>> ((1 : Int32).toUInt32 &&& Int32.toUInt32 31)).toInt32) &&& 1431655765)) &&& 858993459) + ((((x0 - (((x0.toUInt32 >>> ((1 : Int32).toUInt32 &&& Int32.toUInt32 31)).toInt32) &&& 1431655765)).toUInt32 >>> ((2 : Int32).toUInt32 &&& Int32.toUInt32 31)).toInt32) &&& 858993459)) + (((((x0 - (((x0.toUInt32 >>> ((1 : Int32).toUInt32 &&& Int32.toUInt32 31)).toInt32) &&& 1431655765)) &&& 858993459) + ((((x0 - (((x0.toUInt32 >>> ((1 : Int32).toUInt32 &&& Int32.toUInt32 31)).toInt32) &&& 1431655765)).toUInt32 >>> ((2 : Int32).toUInt32 &&& Int32.toUInt32 31)).toInt32) &&& 858993459)).toUInt32 >>> ((4 : Int32).toUInt32 &&& Int32.toUInt32 31)).toInt32)) &&& 252645135).toUInt32 >>> ((8 : Int32).toUInt32 &&& Int32.toUInt32 31)).toInt32)).toUInt32 >>> ((16 : Int32).toUInt32 &&& Int32.toUInt32 31)).toInt32)) &&& 63
set_option maxRecDepth 100000 in
theorem bcF_all : ∀ i, i < 64 → ∀ j, j < 64 → bcF (nI (i * 64 + j)) = nI (pop (i * 64 + j)) := by decide +kernel
theorem c_bitCount {m : Nat} (hm : m < 4096) {σ : nh_S} {Q : Option Value → nh_S → Prop} (hQ : Q (some (.int (nI (pop m)))) σ) : nh_E kJ6_bitCount_0f7a4 0 [some (.int (nI m))] [] σ Q := by
  have h := bcF_all (m / 64) (by omega) (m % 64) (by omega)
  rw [show m / 64 * 64 + m % 64 = m by omega] at h
  refine sg_J6_bitCount_0f7a4_0 _ ?_
  show Q (some (.int (bcF (nI m)))) σ
  rw [h]
  exact hQ
theorem ot_counted {o : Option Nat} (hb : ∀ v, o = some v → v < 2 ^ 31) : (if ot o = -1 then 500 else ot o) = nI (o.getD 500) := by
  cases o with
  | none => rw [if_pos (show ot none = -1 from rfl)]; rfl
  | some v => rw [if_neg (ot_m1 (hb v rfl))]; rfl
theorem CR.Pl {σ : nh_S} {S : SP} (_ : CR σ S) (hW : WF S) : Pl (sH S) (sPn S) (sPa S) (sPb S) := WF_Pl hW
theorem c_wakeBy {S : SP} {σ : nh_S} (hC : CR σ S) (hW : WF S) {f awm : Nat} (hf : f < sH S) (haw : awm < 2 ^ 31) {Q : Option Value → nh_S → Prop} (hQ : ∀ τ, prC σ τ → CR τ S → WK τ S (fwS S f awm) → bdW S (fwS S f awm) → Q none τ) : nh_E kX7_run 0 [some (.ref 12), some (.ref (σ.2.2 0 11)), some (.ref (σ.2.2 0 13)), some (.int (nI f)), some (.int (nI awm)), none] [] σ Q := by
  refine c_run hC.1.1 hC.1.2.2.2.1.L hC.2.1 hW.1 hC.2.2.2.1 (WF_Pl hW) hW.2.2.1.1 hf haw (fun τ t1 t2 t3 => ?_)
  have hp : prC σ τ := t1.pr (by intro k hk; simp at hk; unfold sc; omega)
  exact hQ τ hp (hC.pr hW hp) t2 t3
theorem c_wakeAll {S : SP} {σ : nh_S} (hC : CR σ S) (hW : WF S) {f : Nat} (hf : f < sH S) {Q : Option Value → nh_S → Prop} (hQ : ∀ τ, prC σ τ → CR τ S → WK τ S (fwS S f (sAw S)) → bdW S (fwS S f (sAw S)) → Q none τ) : nh_E kX8_wakeAll 0 [some (.ref 0), some (.int (nI f))] [] σ Q := by
  refine sg_X8_wakeAll_0 _ ⟨hC.1.1, hC.1.2.2.2.1.L, ?_⟩
  rw [hC.2.2.1.2.1]
  exact c_wakeBy hC hW hf (aw_lt hW) (fun τ t1 t2 t3 t4 => ⟨rfl, hQ τ t1 t2 t3 t4⟩)
theorem WK_pr {σ τ : nh_S} {S : SP} {x : (Nat → Option Nat) × (Nat → Option (Nat × Nat))} (h : WK σ S x) (h13 : τ.2.1 13 = σ.2.1 13) (h14 : τ.2.1 14 = σ.2.1 14) (h15 : τ.2.1 15 = σ.2.1 15) : WK τ S x := by
  unfold WK
  rw [h13, h14, h15]
  exact h
/-- PARTS at a FIRE, as they are kept -/
theorem c_gatherAt {S : SP} {σ : nh_S} (hC : CR σ S) (hW : WF S) {o : Nat} (ho : isG o) {x : (Nat → Option Nat) × (Nat → Option (Nat × Nat))} (hK : WK σ S x) (hb : bdW S x) {fire : Nat} (hfi : fire < sH S) {Q : Option Value → nh_S → Prop}
    (hQ : ∀ τ, prC σ τ → CR τ S → WK τ S x → frC [o + 1] σ τ → (∀ p, p < sP S → τ.2.1 (o + 1) p = ot (arr S x fire (sKp S p))) → (∀ p v, p < sP S → arr S x fire (sKp S p) = some v → v ≤ 1000000) → Q none τ) : nh_E kX5_gather 0 [some (.ref o), some (.ref (σ.2.2 0 11)), some (.ref 12), some (.ref 4), some (.int (nI fire)), none] [] σ Q := by
  have d0 := ho
  unfold isG at d0
  refine c_gather (kp := sKp S) ho hC.1.1 rfl (by omega) hC.2.1 hW.1 hK hb (fun p hp => ⟨(hC.2.2.1.1 p hp).1, (hW.2.1.1 p hp).1⟩) hfi (fun τ t1 t2 => ?_)
  have hp : prC σ τ := t1.pr (by intro k hk; simp at hk; unfold sc; omega)
  exact hQ τ hp (hC.pr hW hp) (WK_pr hK (t1.1 13 (by simp; omega)).2 (t1.1 14 (by simp; omega)).2 (t1.1 15 (by simp; omega)).2) t1 t2 (fun p v hp2 hv => arr_bd hW hb hfi (hW.2.1.1 p hp2).1 hv)
/-- a SET of PARTS is put in -/
theorem c_raiseAt {S : SP} {σ : nh_S} (hC : CR σ S) (hW : WF S) {o : Nat} (ho : isG o) {m : Nat} (hm : m < 2 ^ 31) {cm : Nat → Option Nat} (h18 : ∀ p, p < sP S → σ.2.1 (o + 1) p = ot (cm p)) (hb : ∀ p v, p < sP S → cm p = some v → v ≤ 1000000) (hclo : clo S m) {Q : Option Value → nh_S → Prop}
    (hQ : ∀ τ, prC σ τ → CR τ S → frC [o, o + 2, o + 3] σ τ → (stO S cm m ≠ none → pinC S cm m τ o) → (stO S cm m = none → τ.1 o 3 = -1) → Q (some (.int (ot (stO S cm m)))) τ) : nh_E kX5_run 0 [some (.ref o), some (.ref (σ.2.2 0 11)), some (.int (nI m)), none] [] σ Q := by
  have d0 := ho
  unfold isG at d0
  refine c_raise ho hC.1.1 hC.2.1 hW.1 hm h18 hb hclo (fun τ t1 t2 t3 => ?_)
  have hp : prC σ τ := t1.pr (by intro k hk; simp at hk; unfold sc; omega)
  exact hQ τ hp (hC.pr hW hp) t1 t2 t3
theorem c_raiseAll {S : SP} {σ : nh_S} (hC : CR σ S) (hW : WF S) {fire f : Nat} (hfi : fire < sH S) (hf : f < sH S) {Q : Option Value → nh_S → Prop}
    (hQ : ∀ τ, CR τ S → (∀ p v, p < sP S → cmF S f (sAw S) fire p = some v → v ≤ 1000000) → (stF S f (sAw S) fire ≠ none → pinC S (cmF S f (sAw S) fire) (full S) τ 17) → (stF S f (sAw S) fire = none → τ.1 17 3 = -1) → Q (some (.int (ot (stF S f (sAw S) fire)))) τ) : nh_E kX8_raiseAll 0 [some (.ref 0), some (.int (nI fire)), some (.int (nI f))] [] σ Q := by
  refine sg_X8_raiseAll_0 _ _ ?_
  refine c_wakeAll hC hW hf (fun τ t1 t2 t3 t4 => ⟨rfl, t2.1.1, ?_⟩)
  refine c_gatherAt t2 hW isG_17 t3 t4 hfi (fun υ u1 u2 u3 u4 u5 u6 => ⟨rfl, u2.1.1, ?_⟩)
  rw [u2.2.1.2.1, bs_full (by have := hW.1.2.1; omega)]
  exact c_raiseAt u2 hW isG_17 (m := full S) (cm := cmF S f (sAw S) fire) (by have := full_lt hW; omega) u5 u6 (full_clo hW) (fun ρ r1 r2 r3 r4 r5 => ⟨_, rfl, hQ ρ r2 u6 r4 r5⟩)
theorem c_awake {S : SP} {σ : nh_S} (hC : CR σ S) (hW : WF S) (x y : Int32) {Q : Option Value → nh_S → Prop} (hQ : ∀ τ, CR τ S → Q (some (.int (aAwake S x y))) τ) : nh_E kX8_awake 0 [some (.ref 0), some (.int x), some (.int y)] [] σ Q := by
  have h9 := hW.1.1
  unfold aAwake at hQ
  refine sg_X8_awake_0 x y ⟨hC.1.1, ?_⟩
  rw [hC.2.1.1, ix_cls (by omega), ix_cls (by omega)]
  rcases ix_cases x (n := sH S) (by omega) with ⟨f, hf, rfl, e⟩ | ⟨e, hx⟩
  · refine ⟨fun c => absurd ⟨f, hf, rfl⟩ c, fun _ => ?_⟩
    rcases ix_cases y (n := sH S) (by omega) with ⟨h, hh, rfl, e2⟩ | ⟨e2, hy⟩
    · rw [e, e2] at hQ
      refine ⟨fun _ => ?_, fun c => absurd ⟨h, hh, rfl⟩ c⟩
      refine c_wakeAll hC hW hf (fun τ t1 t2 t3 t4 => ⟨rfl, pk_in h 9 (by omega), ?_⟩)
      rw [pk_cl h rfl (by omega), t3.1 h hh]
      exact hQ τ t2
    · rw [e, e2] at hQ
      exact ⟨fun c => absurd (fun ⟨h, hh, q⟩ => hy h hh q) c, fun _ => hQ _ hC⟩
  · rw [e] at hQ
    exact ⟨fun _ => hQ _ hC, fun c => absurd (fun ⟨h, hh, q⟩ => hx h hh q) c⟩
theorem c_comes {S : SP} {σ : nh_S} (hC : CR σ S) (hW : WF S) (x y z : Int32) {Q : Option Value → nh_S → Prop} (hQ : ∀ τ, CR τ S → Q (some (.int (aComes S x y z))) τ) : nh_E kX8_comes 0 [some (.ref 0), some (.int x), some (.int y), some (.int z)] [] σ Q := by
  have h9 := hW.1.1
  have h12 := hW.1.2.1
  unfold aComes at hQ
  refine sg_X8_comes_0 x y z ⟨hC.1.1, ?_⟩
  rw [hC.2.1.1, hC.2.1.2.1, ix_cls (by omega), ix_cls (by omega), ix_cls (by omega)]
  rcases ix_cases x (n := sH S) (by omega) with ⟨fire, hfi, rfl, e⟩ | ⟨e, hx⟩
  · refine ⟨fun c => absurd ⟨fire, hfi, rfl⟩ c, fun _ => ?_⟩
    rcases ix_cases y (n := sH S) (by omega) with ⟨f, hf, rfl, e2⟩ | ⟨e2, hy⟩
    · refine ⟨fun c => absurd ⟨f, hf, rfl⟩ c, fun _ => ?_⟩
      rcases ix_cases z (n := sP S) (by omega) with ⟨p, hp, rfl, e3⟩ | ⟨e3, hz⟩
      · rw [e, e2, e3] at hQ
        refine ⟨fun _ => ?_, fun c => absurd ⟨p, hp, rfl⟩ c⟩
        refine c_wakeAll hC hW hf (fun τ t1 t2 t3 t4 => ⟨rfl, t2.1.1, pk_in p 12 (by omega), ?_⟩)
        rw [pk_cl p rfl (by omega), (t2.2.2.1.1 p hp).1]
        exact c_arrival t2.1.1 t2.2.1 hW.1 t3 t4 (hW.2.1.1 p hp).1 hfi ⟨_, rfl, hQ τ t2⟩
      · rw [e, e2, e3] at hQ
        exact ⟨fun c => absurd (fun ⟨h, hh, q⟩ => hz h hh q) c, fun _ => hQ _ hC⟩
    · rw [e, e2] at hQ
      exact ⟨fun _ => hQ _ hC, fun c => absurd (fun ⟨h, hh, q⟩ => hy h hh q) c⟩
  · rw [e] at hQ
    exact ⟨fun _ => hQ _ hC, fun c => absurd (fun ⟨h, hh, q⟩ => hx h hh q) c⟩
theorem c_stands {S : SP} {σ : nh_S} (hC : CR σ S) (hW : WF S) (x y : Int32) {Q : Option Value → nh_S → Prop} (hQ : ∀ τ, CR τ S → Q (some (.int (aStands S x y))) τ) : nh_E kX8_stands 0 [some (.ref 0), some (.int x), some (.int y)] [] σ Q := by
  have h9 := hW.1.1
  unfold aStands at hQ
  refine sg_X8_stands_0 x y ⟨hC.1.1, ?_⟩
  rw [hC.2.1.1, ix_cls (by omega), ix_cls (by omega)]
  rcases ix_cases x (n := sH S) (by omega) with ⟨fire, hfi, rfl, e⟩ | ⟨e, hx⟩
  · refine ⟨fun c => absurd ⟨fire, hfi, rfl⟩ c, fun _ => ?_⟩
    rcases ix_cases y (n := sH S) (by omega) with ⟨f, hf, rfl, e2⟩ | ⟨e2, hy⟩
    · rw [e, e2] at hQ
      refine ⟨fun _ => ?_, fun c => absurd ⟨f, hf, rfl⟩ c⟩
      exact c_raiseAll hC hW hfi hf (fun τ t1 _ _ _ => ⟨_, rfl, hQ τ t1⟩)
    · rw [e, e2] at hQ
      exact ⟨fun c => absurd (fun ⟨h, hh, q⟩ => hy h hh q) c, fun _ => hQ _ hC⟩
  · rw [e] at hQ
    exact ⟨fun _ => hQ _ hC, fun c => absurd (fun ⟨h, hh, q⟩ => hx h hh q) c⟩
theorem ot_m1_iff {o : Option Nat} (hb : ∀ v, o = some v → v < 2 ^ 31) : ot o = -1 ↔ o = none := by
  cases o with
  | none => exact ⟨fun _ => rfl, fun _ => rfl⟩
  | some v => exact ⟨fun h => absurd h (ot_m1 (hb v rfl)), fun h => by cases h⟩
theorem c_put {S : SP} {σ : nh_S} (hC : CR σ S) (hW : WF S) (x y z : Int32) {Q : Option Value → nh_S → Prop} (hQ : ∀ τ, CR τ S → Q (some (.int (aPut S x y z))) τ) : nh_E kX8_put 0 [some (.ref 0), some (.int x), some (.int y), some (.int z)] [] σ Q := by
  have h9 := hW.1.1
  have h12 := hW.1.2.1
  unfold aPut at hQ
  refine sg_X8_put_0 x y z ⟨hC.1.1, ?_⟩
  rw [hC.2.1.1, ix_cls (by omega), ix_cls (by omega)]
  rcases ix_cases x (n := sH S) (by omega) with ⟨fire, hfi, rfl, e⟩ | ⟨e, hx⟩
  · refine ⟨fun c => absurd ⟨fire, hfi, rfl⟩ c, fun _ => ?_⟩
    rcases ix_cases y (n := sH S) (by omega) with ⟨f, hf, rfl, e2⟩ | ⟨e2, hy⟩
    · rw [e, e2] at hQ
      dsimp only at hQ
      refine ⟨fun _ => ?_, fun c => absurd ⟨f, hf, rfl⟩ c⟩
      refine c_raiseAll hC hW hfi hf (fun τ t1 t2 t3 _ => ⟨_, rfl, ?_⟩)
      have hiff := ot_m1_iff (o := stF S f (sAw S) fire) (fun v hv => by have := stO_bd (m := full S) hW t2 v hv; omega)
      dsimp only
      rw [hiff]
      refine ⟨fun en => ?_, fun en => ?_⟩
      · rw [if_pos en] at hQ
        exact hQ τ t1
      · rw [if_neg en] at hQ
        obtain ⟨p1, p2, -⟩ := t3 en
        have hol := ord_len S (cmN (cmF S f (sAw S) fire)) (full S) (sP S)
        rcases ix_cases z (n := (orF S f (sAw S) fire).length) (by unfold orF; omega) with ⟨k, hk, rfl, e3⟩ | ⟨e3, hz⟩
        · rw [e3] at hQ
          have hk2 : k < (ord S (cmN (cmF S f (sAw S) fire)) (full S) (sP S)).length := hk
          refine ⟨fun q => absurd q (nI_pos (by omega)), fun _ => ?_⟩
          rw [p1]
          refine pk_lt k (ord S (cmN (cmF S f (sAw S) fire)) (full S) (sP S)).length (fun _ => ⟨pk_in k 12 (by omega), ?_⟩) (fun c => by omega)
          obtain ⟨p, hp⟩ : ∃ p, (ord S (cmN (cmF S f (sAw S) fire)) (full S) (sP S))[k]? = some p := ⟨_, List.getElem?_eq_getElem hk2⟩
          have hd : (orF S f (sAw S) fire).getD k 0 = p := by unfold orF; rw [List.getD_eq_getElem?_getD, hp]; rfl
          rw [pk_cl k rfl (by omega), p2 k p hp]
          dsimp only at hQ
          rw [hd] at hQ
          exact hQ τ t1
        · rw [e3] at hQ
          refine ⟨fun _ => hQ τ t1, fun c1 => ?_⟩
          rw [p1]
          refine ⟨fun c2 => ?_, fun _ => hQ τ t1⟩
          exfalso
          apply (ix_cls (x := z) (n := (ord S (cmN (cmF S f (sAw S) fire)) (full S) (sP S)).length) (by omega)).mpr (fun ⟨k, hk, q⟩ => hz k hk q) |>.elim
          · exact c1
          · intro q; exact q c2
    · rw [e, e2] at hQ
      exact ⟨fun c => absurd (fun ⟨h, hh, q⟩ => hy h hh q) c, fun _ => hQ _ hC⟩
  · rw [e] at hQ
    exact ⟨fun _ => hQ _ hC, fun c => absurd (fun ⟨h, hh, q⟩ => hx h hh q) c⟩
theorem c_waited {S : SP} {σ : nh_S} (hC : CR σ S) (hW : WF S) (x y : Int32) {Q : Option Value → nh_S → Prop} (hQ : ∀ τ, CR τ S → Q (some (.int (aWaited S x y))) τ) : nh_E kX8_waited 0 [some (.ref 0), some (.int x), some (.int y)] [] σ Q := by
  have h9 := hW.1.1
  unfold aWaited at hQ
  refine sg_X8_waited_0 x y ⟨hC.1.1, ?_⟩
  rw [hC.2.1.1, ix_cls (by omega), ix_cls (by omega)]
  rcases ix_cases x (n := sH S) (by omega) with ⟨fire, hfi, rfl, e⟩ | ⟨e, hx⟩
  · refine ⟨fun c => absurd ⟨fire, hfi, rfl⟩ c, fun _ => ?_⟩
    rcases ix_cases y (n := sH S) (by omega) with ⟨f, hf, rfl, e2⟩ | ⟨e2, hy⟩
    · rw [e, e2] at hQ
      dsimp only at hQ
      refine ⟨fun _ => ?_, fun c => absurd ⟨f, hf, rfl⟩ c⟩
      refine c_raiseAll hC hW hfi hf (fun τ t1 _ t3 t4 => ⟨_, rfl, ?_⟩)
      dsimp only
      by_cases en : stF S f (sAw S) fire = none
      · rw [if_pos en] at hQ
        rw [t4 en]
        exact hQ τ t1
      · rw [if_neg en] at hQ
        rw [(t3 en).2.2]
        exact hQ τ t1
    · rw [e, e2] at hQ
      exact ⟨fun c => absurd (fun ⟨h, hh, q⟩ => hy h hh q) c, fun _ => hQ _ hC⟩
  · rw [e] at hQ
    exact ⟨fun _ => hQ _ hC, fun c => absurd (fun ⟨h, hh, q⟩ => hx h hh q) c⟩
