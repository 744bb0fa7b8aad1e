/-! THE REFERENCE: fires -/
def full (S : SP) : Nat := 2 ^ sP S - 1
theorem full_bit (S : SP) (p : Nat) : (full S).testBit p = decide (p < sP S) := by unfold full; exact Nat.testBit_two_pow_sub_one _ _
theorem full_lt {S : SP} (hW : WF S) : full S < 2 ^ 12 := by
  have := pw_le hW.1.2.1
  have := Nat.two_pow_pos (sP S)
  unfold full
  omega
theorem be_lt {S : SP} (hW : WF S) {p q : Nat} (hp : p < sP S) (h : (sBe S p).testBit q = true) : q < p := by
  have h1 := (hW.1.2.2.1 p hp).2.2
  apply Classical.byContradiction
  intro c
  rw [Nat.testBit_lt_two_pow (Nat.lt_of_lt_of_le h1 (pw_le (by omega)))] at h
  cases h
theorem full_clo {S : SP} (hW : WF S) : clo S (full S) := by
  intro p hp _ q hq
  have := be_lt hW hp hq
  rw [full_bit, decide_eq_true (by omega)]
/-- when each PART comes -/
noncomputable def cmF (S : SP) (f awm fire p : Nat) : Option Nat := arr S (fwS S f awm) fire (sKp S p)
theorem arr_bd {S : SP} (hW : WF S) {x : (Nat → Option Nat) × (Nat → Option (Nat × Nat))} (hb : bdW S x) {fire h v : Nat} (hfi : fire < sH S) (hh : h < sH S) (he : arr S x fire h = some v) : v ≤ 1000000 := by
  unfold arr at he
  cases h1 : x.1 h with
  | some t =>
    rw [h1] at he
    cases he
    have := hb.1 h t hh h1
    have := (hW.1.2.2.2.2 h fire hh hfi).1
    omega
  | none =>
    rw [h1] at he
    cases h2 : x.2 h with
    | none => rw [h2] at he; cases he
    | some y =>
      rw [h2] at he
      obtain ⟨t, q⟩ := y
      cases he
      have h3 := hb.2 h (t, q) hh h2
      have := (hW.1.2.2.2.2 q fire h3.2 hfi).1
      omega
theorem aw_lt {S : SP} (hW : WF S) : sAw S < 2 ^ 31 := Nat.lt_of_lt_of_le hW.2.1.2.1 (pw_le (by have := hW.1.1; omega))
theorem r_standsBy {S : SP} {σ : nh_S} (hR : RR σ S) (hW : WF S) {fire f awm : Nat} (hfi : fire < sH S) (hf : f < sH S) (haw : awm < 2 ^ 31) {Q : Option Value → nh_S → Prop}
    (hQ : ∀ τ, pr σ τ → (∀ p, p < sP S → τ.2.1 18 p = ot (cmF S f awm fire p)) → (∀ p v, p < sP S → cmF S f awm fire p = some v → v ≤ 1000000) → (stO S (cmF S f awm fire) (full S) ≠ none → pin S (cmF S f awm fire) (full S) τ) → Q (some (.int (ot (stO S (cmF S f awm fire) (full S))))) τ) :
    nh_E kX9_standsBy 0 [some (.ref 0), some (.int (nI fire)), some (.int (nI f)), some (.int (nI awm))] [] σ Q := by
  have h12 := hW.1.2.1
  refine sg_X9_standsBy_0 _ _ _ ?_
  refine r_burn hR hW hfi hf haw (fun τ t1 _ t3 t4 => ⟨rfl, ?_⟩)
  have hRt := hR.pr h12 t1
  have hcb : ∀ p v, p < sP S → cmF S f awm fire p = some v → v ≤ 1000000 := fun p v hp hv => arr_bd hW t4 hfi (hW.2.1.1 p hp).1 hv
  refine r_comeAll hRt hW t3 (fun υ u1 u2 => ⟨rfl, ?_⟩)
  have hpu := t1.tr (u1.pr (by decide))
  have hRu := hR.pr h12 hpu
  dsimp only
  rw [hRu.1.2.1, bs_full (by omega)]
  refine r_putIn (m := full S) (cm := cmF S f awm fire) hRu hW (by have := full_lt hW; omega) u2 hcb (full_clo hW) (fun ρ r1 r2 => ⟨_, rfl, ?_⟩)
  exact hQ ρ (hpu.tr (r1.pr (by decide) (by decide))) (fun p hp => by rw [r1.1 18 (by decide)]; exact u2 p hp) hcb r2
noncomputable def aAwake (S : SP) (x y : Int32) : Int32 := match ix x (sH S), ix y (sH S) with
  | some f, some h => ot ((fwS S f (sAw S)).1 h)
  | _, _ => -1000001
theorem r_awake {S : SP} {σ : nh_S} (hR : RR σ S) (hW : WF S) (x y : Int32) {Q : Option Value → nh_S → Prop} (hQ : ∀ τ, RR τ S → Q (some (.int (aAwake S x y))) τ) : nh_E kX9_awake 0 [some (.ref 0), some (.int x), some (.int y)] [] σ Q := by
  have h9 := hW.1.1
  unfold aAwake at hQ
  refine sg_X9_awake_0 x y ?_
  rw [hR.1.1, ix_ref (by omega), ix_ref (by omega)]
  rcases ix_cases x (n := sH S) (by omega) with ⟨f, hf, rfl, e⟩ | ⟨e, hx⟩
  · refine ⟨fun c => absurd ⟨f, hf, rfl⟩ c, fun _ => ?_⟩
    rcases ix_cases y (n := sH S) (by omega) with ⟨h, hh, rfl, e2⟩ | ⟨e2, hy⟩
    · rw [e, e2] at hQ
      refine ⟨fun _ => ?_, fun c => absurd ⟨h, hh, rfl⟩ c⟩
      rw [hR.2.1.2.1]
      refine r_burn (fire := 0) hR hW (by omega) hf (aw_lt hW) (fun τ t1 t2 _ _ => ⟨rfl, pk_in h 9 (by omega), ?_⟩)
      rw [pk_cl h rfl (by omega), t2 h hh]
      exact hQ τ (hR.pr hW.1.2.1 t1)
    · rw [e, e2] at hQ
      exact ⟨fun ⟨h, hh, q⟩ => absurd q (hy h hh), fun _ => hQ _ hR⟩
  · rw [e] at hQ
    exact ⟨fun _ => hQ _ hR, fun ⟨h, hh, q⟩ => absurd q (hx h hh)⟩
noncomputable def aComes (S : SP) (x y z : Int32) : Int32 := match ix x (sH S), ix y (sH S), ix z (sP S) with
  | some fire, some f, some p => ot (cmF S f (sAw S) fire p)
  | _, _, _ => -1000001
theorem r_comes {S : SP} {σ : nh_S} (hR : RR σ S) (hW : WF S) (x y z : Int32) {Q : Option Value → nh_S → Prop} (hQ : ∀ τ, RR τ S → Q (some (.int (aComes S x y z))) τ) : nh_E kX9_comes 0 [some (.ref 0), some (.int x), some (.int y), some (.int z)] [] σ Q := by
  have h9 := hW.1.1
  have h12 := hW.1.2.1
  unfold aComes at hQ
  refine sg_X9_comes_0 x y z ?_
  rw [hR.1.1, hR.1.2.1, ix_ref (by omega), ix_ref (by omega), ix_ref (by omega)]
  rcases ix_cases x (n := sH S) (by omega) with ⟨fire, hfi, rfl, e⟩ | ⟨e, hx⟩
  · refine ⟨fun c => absurd ⟨fire, hfi, rfl⟩ c, fun _ => ?_⟩
    rcases ix_cases y (n := sH S) (by omega) with ⟨f, hf, rfl, e2⟩ | ⟨e2, hy⟩
    · refine ⟨fun c => absurd ⟨f, hf, rfl⟩ c, fun _ => ?_⟩
      rcases ix_cases z (n := sP S) (by omega) with ⟨p, hp, rfl, e3⟩ | ⟨e3, hz⟩
      · rw [e, e2, e3] at hQ
        refine ⟨fun _ => ?_, fun c => absurd ⟨p, hp, rfl⟩ c⟩
        rw [hR.2.1.2.1]
        refine r_burn hR hW hfi hf (aw_lt hW) (fun τ t1 _ t3 _ => ⟨rfl, ?_⟩)
        refine r_comeAll (hR.pr h12 t1) hW t3 (fun υ u1 u2 => ⟨rfl, pk_in p 12 (by omega), ?_⟩)
        rw [pk_cl p rfl (by omega), u2 p hp]
        exact hQ υ (hR.pr h12 (t1.tr (u1.pr (by decide))))
      · rw [e, e2, e3] at hQ
        exact ⟨fun ⟨h, hh, q⟩ => absurd q (hz h hh), fun _ => hQ _ hR⟩
    · rw [e, e2] at hQ
      exact ⟨fun _ => hQ _ hR, fun ⟨h, hh, q⟩ => absurd q (hy h hh)⟩
  · rw [e] at hQ
    exact ⟨fun _ => hQ _ hR, fun ⟨h, hh, q⟩ => absurd q (hx h hh)⟩
noncomputable def stF (S : SP) (f awm fire : Nat) : Option Nat := stO S (cmF S f awm fire) (full S)
noncomputable def orF (S : SP) (f awm fire : Nat) : List Nat := ord S (cmN (cmF S f awm fire)) (full S) (sP S)
noncomputable def aStands (S : SP) (x y : Int32) : Int32 := match ix x (sH S), ix y (sH S) with
  | some fire, some f => ot (stF S f (sAw S) fire)
  | _, _ => -1000001
theorem r_stands {S : SP} {σ : nh_S} (hR : RR σ S) (hW : WF S) (x y : Int32) {Q : Option Value → nh_S → Prop} (hQ : ∀ τ, RR τ S → Q (some (.int (aStands S x y))) τ) : nh_E kX9_stands 0 [some (.ref 0), some (.int x), some (.int y)] [] σ Q := by
  have h9 := hW.1.1
  unfold aStands at hQ
  refine sg_X9_stands_0 x y ?_
  rw [hR.1.1, ix_ref (by omega), ix_ref (by omega)]
  rcases ix_cases x (n := sH S) (by omega) with ⟨fire, hfi, rfl, e⟩ | ⟨e, hx⟩
  · refine ⟨fun c => absurd ⟨fire, hfi, rfl⟩ c, fun _ => ?_⟩
    rcases ix_cases y (n := sH S) (by omega) with ⟨f, hf, rfl, e2⟩ | ⟨e2, hy⟩
    · rw [e, e2] at hQ
      refine ⟨fun c => absurd ⟨f, hf, rfl⟩ c, fun _ => ?_⟩
      rw [hR.2.1.2.1]
      exact r_standsBy hR hW hfi hf (aw_lt hW) (fun τ t1 _ _ _ => ⟨_, rfl, hQ τ (hR.pr hW.1.2.1 t1)⟩)
    · rw [e, e2] at hQ
      exact ⟨fun _ => hQ _ hR, fun ⟨h, hh, q⟩ => absurd q (hy h hh)⟩
  · rw [e] at hQ
    exact ⟨fun _ => hQ _ hR, fun ⟨h, hh, q⟩ => absurd q (hx h hh)⟩
noncomputable def aPut (S : SP) (x y z : Int32) : Int32 := match ix x (sH S), ix y (sH S) with
  | some fire, some f => if stF S f (sAw S) fire = none then -1 else (match ix z (orF S f (sAw S) fire).length with
    | none => -1
    | some k => nI ((orF S f (sAw S) fire).getD k 0))
  | _, _ => -1000001
theorem ot_lt0 {o : Option Nat} (hb : ∀ v, o = some v → v < 2 ^ 31) : ot o < 0 ↔ o = none := by
  cases o with
  | none => exact ⟨fun _ => rfl, fun _ => ot_neg⟩
  | some v => exact ⟨fun h => absurd h (ot_nn (hb v rfl)), fun h => by cases h⟩
theorem stO_bd {S : SP} (hW : WF S) {cm : Nat → Option Nat} {m : Nat} (hb : ∀ p v, p < sP S → cm p = some v → v ≤ 1000000) : ∀ v, stO S cm m = some v → v ≤ 1000720 := by
  intro v hv
  unfold stO at hv
  split at hv
  · cases hv
  · cases hv
    have h := stT_le (S := S) (c := cmN cm) (L := ord S (cmN cm) m (sP S)) (B := 1000000) (fun p hp => cm_bd hb p (ord_mem.mp hp).1) (fun p hp => (hW.1.2.2.1 p (ord_mem.mp hp).1).1) (ord S (cmN cm) m (sP S)).length
    rw [List.take_length] at h
    have := ord_len S (cmN cm) m (sP S)
    have := hW.1.2.1
    omega
theorem r_put {S : SP} {σ : nh_S} (hR : RR σ S) (hW : WF S) (x y z : Int32) {Q : Option Value → nh_S → Prop} (hQ : ∀ τ, RR τ S → Q (some (.int (aPut S x y z))) τ) : nh_E kX9_put 0 [some (.ref 0), some (.int x), some (.int y), some (.int z), none] [] σ Q := by
  have h9 := hW.1.1
  have h12 := hW.1.2.1
  unfold aPut at hQ
  refine sg_X9_put_0 x y z ?_
  rw [hR.1.1, ix_ref (by omega), ix_ref (by omega)]
  rcases ix_cases x (n := sH S) (by omega) with ⟨fire, hfi, rfl, e⟩ | ⟨e, hx⟩
  · refine ⟨fun c => absurd ⟨fire, hfi, rfl⟩ c, fun _ => ?_⟩
    rcases ix_cases y (n := sH S) (by omega) with ⟨f, hf, rfl, e2⟩ | ⟨e2, hy⟩
    · rw [e, e2] at hQ
      dsimp only at hQ
      refine ⟨fun _ => ?_, fun c => absurd ⟨f, hf, rfl⟩ c⟩
      rw [hR.2.1.2.1]
      refine r_standsBy hR hW hfi hf (aw_lt hW) (fun τ t1 _ t3 t4 => ⟨_, rfl, ?_⟩)
      have hlt := ot_lt0 (fun v hv => by have := stO_bd (m := full S) hW t3 v hv; omega)
      have hRt := hR.pr h12 t1
      by_cases en : stO S (cmF S f (sAw S) fire) (full S) = none
      · rw [if_pos (show stF S f (sAw S) fire = none from en)] at hQ
        refine ⟨fun c => absurd (hlt.mpr en) c, ?_⟩
        rw [if_pos (hlt.mpr en)]
        exact hQ τ hRt
      · rw [if_neg (show ¬ stF S f (sAw S) fire = none from en)] at hQ
        obtain ⟨p1, p2⟩ := t4 en
        have hol := ord_len S (cmN (cmF S f (sAw S) fire)) (full S) (sP S)
        dsimp only
        rw [p1]
        rcases ix_cases z (n := (orF S f (sAw S) fire).length) (by unfold orF; omega) with ⟨k, hk, rfl, e3⟩ | ⟨e3, hz⟩
        · rw [e3] at hQ
          have hk2 : k < (ord S (cmN (cmF S f (sAw S) fire)) (full S) (sP S)).length := hk
          refine ⟨fun _ _ => pk_in k 12 (by omega), ?_⟩
          obtain ⟨p, hp⟩ : ∃ p, (ord S (cmN (cmF S f (sAw S) fire)) (full S) (sP S))[k]? = some p := ⟨_, List.getElem?_eq_getElem hk2⟩
          rw [if_neg (fun c => en (hlt.mp c)), if_pos ((ix_ref (by omega)).mpr ⟨k, hk2, rfl⟩), pk_cl k rfl (by omega), (p2 k p hp).1]
          have hd : (orF S f (sAw S) fire).getD k 0 = p := by unfold orF; rw [List.getD_eq_getElem?_getD, hp]; rfl
          dsimp only at hQ
          rw [hd] at hQ
          exact hQ τ hRt
        · rw [e3] at hQ
          refine ⟨fun _ c => ?_, ?_⟩
          · obtain ⟨k, hk, q⟩ := (ix_ref (by omega)).mp c
            exact absurd q (hz k hk)
          · rw [if_neg (fun c => en (hlt.mp c)), if_neg (fun c => by obtain ⟨k, hk, q⟩ := (ix_ref (by omega)).mp c; exact hz k hk q)]
            exact hQ τ hRt
    · rw [e, e2] at hQ
      exact ⟨fun ⟨h, hh, q⟩ => absurd q (hy h hh), fun _ => hQ _ hR⟩
  · rw [e] at hQ
    exact ⟨fun _ => hQ _ hR, fun ⟨h, hh, q⟩ => absurd q (hx h hh)⟩
noncomputable def aWaited (S : SP) (x y : Int32) : Int32 := match ix x (sH S), ix y (sH S) with
  | some fire, some f => if stF S f (sAw S) fire = none then -1 else ot (wtd S (cmN (cmF S f (sAw S) fire)) (orF S f (sAw S) fire) (orF S f (sAw S) fire).length)
  | _, _ => -1000001
set_option maxHeartbeats 1000000 in
theorem r_waited {S : SP} {σ : nh_S} (hR : RR σ S) (hW : WF S) (x y : Int32) {Q : Option Value → nh_S → Prop} (hQ : ∀ τ, RR τ S → Q (some (.int (aWaited S x y))) τ) : nh_E kX9_waited 0 [some (.ref 0), some (.int x), some (.int y), none, none, none, none, none] [] σ Q := by
  have h9 := hW.1.1
  have h12 := hW.1.2.1
  unfold aWaited at hQ
  refine sg_X9_waited_0 x y ?_
  rw [hR.1.1, ix_ref (by omega), ix_ref (by omega)]
  rcases ix_cases x (n := sH S) (by omega) with ⟨fire, hfi, rfl, e⟩ | ⟨e, hx⟩
  · refine ⟨fun c => absurd ⟨fire, hfi, rfl⟩ c, fun _ => ?_⟩
    rcases ix_cases y (n := sH S) (by omega) with ⟨f, hf, rfl, e2⟩ | ⟨e2, hy⟩
    · rw [e, e2] at hQ
      dsimp only at hQ
      refine ⟨fun _ => ?_, fun c => absurd ⟨f, hf, rfl⟩ c⟩
      rw [hR.2.1.2.1]
      refine r_standsBy hR hW hfi hf (aw_lt hW) (fun τ t1 t2 t3 t4 => ⟨_, rfl, ?_⟩)
      have hlt := ot_lt0 (fun v hv => by have := stO_bd (m := full S) hW t3 v hv; omega)
      have hRt := hR.pr h12 t1
      have hq2 := hQ τ hRt
      unfold orF at hq2
      unfold stF at hq2
      generalize hcm : cmF S f (sAw S) fire = cm at *
      by_cases en : stO S cm (full S) = none
      · rw [if_pos en] at hq2
        rw [en]
        refine sg_X9_waited_39 _ _ _ ⟨fun _ => hq2, fun _ => ⟨fun _ => hq2, fun c => absurd ot_neg c⟩⟩
      · rw [if_neg en] at hq2
        obtain ⟨p1, p2⟩ := t4 en
        have hol := ord_len S (cmN cm) (full S) (sP S)
        have hsb := stT_le (S := S) (c := cmN cm) (L := ord S (cmN cm) (full S) (sP S)) (B := 1000000) (fun p hp => cm_bd t3 p (ord_mem.mp hp).1) (fun p hp => (hW.1.2.2.1 p (ord_mem.mp hp).1).1)
        have hnm : ∀ p, p ∈ ord S (cmN cm) (full S) (sP S) → cm p = some (cmN cm p) := by
          intro p hp
          have hpm := ord_mem.mp hp
          cases q : cm p with
          | some v => unfold cmN; rw [q]; rfl
          | none =>
            exfalso
            apply en
            unfold stO
            have h1 : miss cm (full S) (p + 1) = true := by
              show (miss cm (full S) p || ((full S).testBit p && (cm p).isNone)) = true
              rw [q, hpm.2]; simp
            have h2 := miss_mono (k := sP S - (p + 1)) h1
            rw [show p + 1 + (sP S - (p + 1)) = sP S by omega] at h2
            rw [if_pos h2]
        refine nh_loop (α := Unit) (fun i _ => nh_E kX9_waited 39 [some (.ref 0), none, none, some (.int (ot (stO S cm (full S)))), some (.int (ot (wtd S (cmN cm) (ord S (cmN cm) (full S) (sP S)) i))), some (.int (nI i)), none, none] [] τ Q) (fun _ _ => True) (ord S (cmN cm) (full S) (sP S)).length ?_ ?_ (ord S (cmN cm) (full S) (sP S)).length 0 () (by omega) trivial
        · intro _ _
          exact sg_X9_waited_39 _ _ _ (pk_le (ord S (cmN cm) (full S) (sP S)).length (ord S (cmN cm) (full S) (sP S)).length (fun _ => hq2) (fun c => by omega) p1 rfl)
        · intro i _ hi _ ih
          refine sg_X9_waited_39 _ _ _ (pk_le (ord S (cmN cm) (full S) (sP S)).length i (fun c => by omega) (fun c => ⟨fun q => absurd (hlt.mp q) en, fun _ => ?_⟩) p1 rfl)
          have ih := ih () trivial
          obtain ⟨p, hp⟩ : ∃ p, (ord S (cmN cm) (full S) (sP S))[i]? = some p := ⟨_, List.getElem?_eq_getElem hi⟩
          have hpm := ord_mem.mp (List.mem_of_getElem? hp)
          obtain ⟨q1, q2⟩ := p2 i p hp
          have a18 : τ.2.1 18 p = nI (cmN cm p) := by rw [t2 p hpm.1, hnm p (List.mem_of_getElem? hp)]; rfl
          have hcb := cm_bd t3 p hpm.1
          have hsi := hsb i
          rw [pk_cl i rfl (by omega), q1, q2, pk_cl p rfl (by omega), a18, nI_1]
          have hstep : wtd S (cmN cm) (ord S (cmN cm) (full S) (sP S)) (i + 1) = if i = 0 ∨ stT S (cmN cm) ((ord S (cmN cm) (full S) (sP S)).take i) < cmN cm p then some p else wtd S (cmN cm) (ord S (cmN cm) (full S) (sP S)) i := by rw [wtd, hp]
          rw [hstep] at ih
          rcases (show i = 0 ∨ ∃ j, i = j + 1 from by cases i with | zero => exact Or.inl rfl | succ j => exact Or.inr ⟨j, rfl⟩) with rfl | ⟨j, rfl⟩
          · refine ⟨pk_in 0 12 (by omega), fun c => absurd rfl c, ?_⟩
            rw [if_pos (Or.inl rfl)] at ih
            rw [if_pos (Or.inl (show nI 0 = 0 from rfl))]
            exact ih
          · obtain ⟨p', hp'⟩ : ∃ p', (ord S (cmN cm) (full S) (sP S))[j]? = some p' := ⟨_, List.getElem?_eq_getElem (by omega)⟩
            have hpm' := ord_mem.mp (List.mem_of_getElem? hp')
            obtain ⟨q3, q4⟩ := p2 j p' hp'
            have a6 : τ.2.1 6 p' = nI (sMi S p') := (hRt.1.2.2.1 p' hpm'.1).1
            rw [nI_pred, pk_cl j rfl (by omega), q3, q4, pk_cl p' rfl (by omega), a6, nI_add, ← stT_take hp']
            refine ⟨pk_in (j + 1) 12 (by omega), fun _ => ⟨pk_in p 12 (by omega), fun _ => ⟨pk_in j 12 (by omega), pk_in p' 24 (by omega)⟩⟩, ?_⟩
            have hcond : ((nI (j + 1) = 0) ∨ ((nI (if stT S (cmN cm) ((ord S (cmN cm) (full S) (sP S)).take (j + 1)) < cmN cm p then cmN cm p else stT S (cmN cm) ((ord S (cmN cm) (full S) (sP S)).take (j + 1))) = nI (cmN cm p)) ∧ (¬ (nI (if stT S (cmN cm) ((ord S (cmN cm) (full S) (sP S)).take (j + 1)) < cmN cm p then cmN cm p else stT S (cmN cm) ((ord S (cmN cm) (full S) (sP S)).take (j + 1))) ≤ nI (stT S (cmN cm) ((ord S (cmN cm) (full S) (sP S)).take (j + 1))))))) ↔ (j + 1 = 0 ∨ stT S (cmN cm) ((ord S (cmN cm) (full S) (sP S)).take (j + 1)) < cmN cm p) := by
              by_cases e : stT S (cmN cm) ((ord S (cmN cm) (full S) (sP S)).take (j + 1)) < cmN cm p
              · rw [if_pos e, nI_leI (by omega) (by omega)]
                exact ⟨fun _ => Or.inr e, fun _ => Or.inr ⟨rfl, by omega⟩⟩
              · rw [if_neg e, nI_leI (by omega) (by omega)]
                constructor
                · rintro (h | ⟨-, h⟩)
                  · exact absurd h (nI_ne0 (by omega) (by omega))
                  · exact absurd (Nat.le_refl _) h
                · rintro (h | h)
                  · omega
                  · exact absurd h e
            by_cases e : j + 1 = 0 ∨ stT S (cmN cm) ((ord S (cmN cm) (full S) (sP S)).take (j + 1)) < cmN cm p
            · rw [if_pos e] at ih
              rw [if_pos (hcond.mpr e)]
              exact ih
            · rw [if_neg e] at ih
              rw [if_neg (fun z => e (hcond.mp z))]
              exact ih
    · rw [e, e2] at hQ
      exact ⟨fun ⟨h, hh, q⟩ => absurd q (hy h hh), fun _ => hQ _ hR⟩
  · rw [e] at hQ
    exact ⟨fun _ => hQ _ hR, fun ⟨h, hh, q⟩ => absurd q (hx h hh)⟩
