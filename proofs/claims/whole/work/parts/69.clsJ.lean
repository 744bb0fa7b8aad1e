/-! THE CLASS: where PARTS are kept -/
theorem gst_kp (S : SP) (p h : Nat) : gst (sUp S 9 p 0 h) = gst S := rfl
theorem go_kp (S : SP) (p h f : Nat) (aw : Nat → Bool) (L : List Nat) (x : (Nat → Option Nat) × Nat × Nat × Nat) : go (sUp S 9 p 0 h) f aw L x = go S f aw L x := by
  unfold go
  rw [gst_kp]
theorem tim_kp (S : SP) (p h f : Nat) (aw : Nat → Bool) : ∀ (L : List Nat) (t q b : Nat), tim (sUp S 9 p 0 h) f aw L t q b = tim S f aw L t q b
  | [], t, q, b => rfl
  | c :: L, t, q, b => by
    rw [tim, tim, tim_kp S p h f aw L]
    rfl
theorem Fin_kp (S : SP) (p h n : Nat) (pa pb : Nat → Nat) (f : Nat) (aw : Nat → Bool) (x : (Nat → Option Nat) × (Nat → Option (Nat × Nat))) : Fin (sUp S 9 p 0 h) n pa pb f aw x = Fin S n pa pb f aw x := by
  unfold Fin Inv rend
  simp only [tim_kp, go_kp]
  rfl
theorem fwS_kp (S : SP) (p h f a : Nat) : fwS (sUp S 9 p 0 h) f a = fwS S f a := by
  show fw (sUp S 9 p 0 h) (sPn S) (sPa S) (sPb S) f a.testBit = fw S (sPn S) (sPa S) (sPb S) f a.testBit
  unfold fw
  congr 1
  funext x
  exact Fin_kp S p h _ _ _ f _ x
theorem arr_kp (S : SP) (p h : Nat) (x : (Nat → Option Nat) × (Nat → Option (Nat × Nat))) (a b : Nat) : arr (sUp S 9 p 0 h) x a b = arr S x a b := rfl
/-- what Moves holds while it looks: the PARISH's cells, the minutes, the FIRES in some order, what comes from where, where PARTS are kept -/
def MV (o : Nat) (τ : nh_S) (T : SP) (f t : Nat) (π : Nat → Nat) : Prop := isP o ∧ CRc τ o T ∧ bdW T (fwS T f 0) ∧ τ.1 83 7 = nI t ∧ (∀ i, i < sH T → π i < sH T ∧ τ.2.1 97 i = nI (π i)) ∧ (∀ k, k < sH T → ∃ i, i < sH T ∧ π i = k) ∧ (∀ a h, a < sH T → h < sH T → τ.2.1 (88 + a) h = ot (arr T (fwS T f 0) a h)) ∧ ∀ p, p < sP T → τ.2.1 86 p = nI (sKp T p)
def MW (o : Nat) (τ : nh_S) (T : SP) (f t : Nat) : Prop := ∃ π, MV o τ T f t π
theorem MW.P {o : Nat} {τ : nh_S} {T : SP} {f t : Nat} (h : MW o τ T f t) : isP o := by obtain ⟨π, h⟩ := h; exact h.1
theorem MW.a0 {o : Nat} {τ : nh_S} {T : SP} {f t : Nat} (h : MW o τ T f t) : τ.1 o 0 = nI (sH T) := by obtain ⟨π, h⟩ := h; exact h.2.1.1
theorem MW.a1 {o : Nat} {τ : nh_S} {T : SP} {f t : Nat} (h : MW o τ T f t) : τ.1 o 1 = nI (sP T) := by obtain ⟨π, h⟩ := h; exact h.2.1.2.1
theorem MW.kp {o : Nat} {τ : nh_S} {T : SP} {f t : Nat} (h : MW o τ T f t) : ∀ p, p < sP T → τ.2.1 86 p = nI (sKp T p) := by obtain ⟨π, h⟩ := h; exact h.2.2.2.2.2.2.2
theorem MV_kp {o : Nat} {τ : nh_S} {T : SP} {f t p h : Nat} (hM : MW o τ T f t) (hW : WF T) (hp : p < sP T) : MW o (nh_wa τ 86 p (nI h)) (sUp T 9 p 0 h) f t := by
  have h9 := hW.1.1
  obtain ⟨π, m1, m2, m3, m4, m5, m6, m7, m8⟩ := hM
  have d1 := m1
  unfold isP at d1
  refine ⟨π, m1, ?_, ?_, m4, fun i hi => ⟨(m5 i hi).1, ?_⟩, m6, fun a b ha hb => ?_, fun q hq => ?_⟩
  · exact CRc_tr m2 hW.1 rfl (fun k h1 h2 => wa_ne τ _ _ (by omega)) (fun t ht => sUp_ne T (by omega) p 0 h)
  · rw [fwS_kp]
    exact m3
  · rw [wa_ne τ _ _ (by decide)]
    exact (m5 i hi).2
  · have ha : a < sH T := ha
    rw [fwS_kp, arr_kp, wa_ne τ _ _ (by omega)]
    exact m7 a b ha hb
  · rw [bs_get]
    show _ = nI (sUp T 9 p 0 h 9 q 0)
    rw [sUp_at]
    by_cases e : q = p
    · rw [if_pos ⟨rfl, e⟩, if_pos ⟨e, rfl⟩]
    · rw [if_neg (fun z => e z.2), if_neg (fun z => e z.1)]
      exact m8 q hq
theorem MV_fr {o : Nat} {τ υ : nh_S} {T : SP} {f t : Nat} {π : Nat → Nat} (hM : MV o τ T f t π) (hW : WF T) {ks : List Nat} (hf : frC ks τ υ) (hk : ∀ k ∈ ks, 98 ≤ k) : MV o υ T f t π := by
  have h9 := hW.1.1
  obtain ⟨m1, m2, m3, m4, m5, m6, m7, m8⟩ := hM
  have d1 := m1
  unfold isP at d1
  have n : ∀ k, k < 98 → k ∉ ks := fun k h q => by have := hk k q; omega
  refine ⟨m1, ?_, m3, ?_, fun i hi => ⟨(m5 i hi).1, ?_⟩, m6, fun a b ha hb => ?_, fun p hp => ?_⟩
  · exact CRc_tr m2 hW.1 (hf.1 _ (n _ (by omega))).1 (fun k h1 h2 => (hf.1 k (n k (by omega))).2) (fun _ _ => rfl)
  · rw [(hf.1 83 (n 83 (by omega))).1]; exact m4
  · rw [(hf.1 97 (n 97 (by omega))).2]; exact (m5 i hi).2
  · rw [(hf.1 (88 + a) (n _ (by omega))).2]; exact m7 a b ha hb
  · rw [(hf.1 86 (n 86 (by omega))).2]; exact m8 p hp
theorem MV_sw {o : Nat} {τ : nh_S} {T : SP} {f t : Nat} {π : Nat → Nat} (hM : MV o τ T f t π) (hW : WF T) {i : Nat} (hi : i < sH T) : MW o (nh_wa (nh_wa τ 97 0 (τ.2.1 97 i)) 97 i (τ.2.1 97 0)) T f t := by
  have h9 := hW.1.1
  obtain ⟨m1, m2, m3, m4, m5, m6, m7, m8⟩ := hM
  have d1 := m1
  unfold isP at d1
  have ne : ∀ k, k ≠ 97 → (nh_wa (nh_wa τ 97 0 (τ.2.1 97 i)) 97 i (τ.2.1 97 0)).2.1 k = τ.2.1 k := fun k hk => by rw [wa_ne _ _ _ hk, wa_ne _ _ _ hk]
  refine ⟨fun j => if j = i then π 0 else if j = 0 then π i else π j, m1, ?_, m3, m4, fun j hj => ?_, fun k hk => ?_, fun a b ha hb => ?_, fun p hp => ?_⟩
  · exact CRc_tr m2 hW.1 rfl (fun k h1 h2 => ne k (by omega)) (fun _ _ => rfl)
  · dsimp only
    rw [bs_get, bs_get]
    by_cases e : j = i
    · rw [if_pos e, if_pos ⟨rfl, e⟩]
      exact m5 0 (by omega)
    · rw [if_neg e, if_neg (fun z : (97 : Nat) = 97 ∧ j = i => e z.2)]
      by_cases e0 : j = 0
      · rw [if_pos e0, if_pos ⟨rfl, e0⟩]
        exact m5 i hi
      · rw [if_neg e0, if_neg (fun z : (97 : Nat) = 97 ∧ j = 0 => e0 z.2)]
        exact m5 j hj
  · obtain ⟨j, hj, e⟩ := m6 k hk
    by_cases e1 : j = 0
    · exact ⟨i, hi, by dsimp only; rw [if_pos rfl, ← e, e1]⟩
    · by_cases e2 : j = i
      · refine ⟨0, by omega, ?_⟩
        dsimp only
        rw [if_neg (by omega), if_pos rfl, ← e, e2]
      · refine ⟨j, hj, ?_⟩
        dsimp only
        rw [if_neg e2, if_neg e1]
        exact e
  · rw [ne _ (by omega)]
    exact m7 a b ha hb
  · rw [ne _ (by omega)]
    exact m8 p hp
noncomputable def okF (S : SP) (f t n : Nat) : Bool := match stF S f 0 n with
  | none => false
  | some v => decide (v ≤ t)
theorem hl_iff (S : SP) (f t : Nat) : ∀ n, hl S f t n = true ↔ ∀ k, k < n → okF S f t k = true
  | 0 => ⟨fun _ k hk => by omega, fun _ => rfl⟩
  | n + 1 => by
    show (hl S f t n && okF S f t n) = true ↔ _
    rw [Bool.and_eq_true, hl_iff S f t n]
    constructor
    · rintro ⟨h1, h2⟩ k hk
      by_cases e : k = n
      · rw [e]; exact h2
      · exact h1 k (by omega)
    · intro h
      exact ⟨fun k hk => h k (by omega), h n (by omega)⟩
theorem b01 {b : Bool} : ((if b = true then 1 else 0 : Int32) = 0) ↔ b = false := by
  cases b <;> decide
theorem c_isInTime {T : SP} {τ : nh_S} {o f t : Nat} (hM : MW o τ T f t) (hW : WF T) (ht : t ≤ 999) {Q : Option Value → nh_S → Prop} (hQ : ∀ υ, frC [97, 98, 99, 100, 101] τ υ → MW o υ T f t → Q (some (.int (if hld T f t = true then 1 else 0))) υ) : nh_E kX1_isInTime 0 [some (.ref 83), some (.ref o), none, none] [] τ Q := by
  have h9 := hW.1.1
  have h12 := hW.1.2.1
  have no : ∀ k, k < sH T → okF T f t k = false → hld T f t = false := by
    intro k hk h
    cases q : hld T f t with
    | false => rfl
    | true => rw [(hl_iff T f t (sH T)).mp q k hk] at h; cases h
  obtain ⟨π, hM⟩ := hM
  have ho := hM.1
  refine sg_X1_isInTime_0 ho ?_
  refine nh_loop (α := nh_S) (fun i ρ => nh_E kX1_isInTime 2 [some (.ref 83), some (.ref o), some (.int (nI i)), none] [] ρ Q) (fun i ρ => frC [97, 98, 99, 100, 101] τ ρ ∧ MV o ρ T f t π ∧ ∀ k, k < i → okF T f t (π k) = true) (sH T) ?_ ?_ (sH T) 0 τ (by omega) ⟨frC.rf _ _, hM, fun k hk => by omega⟩
  · rintro ρ ⟨r1, r2, r3⟩
    refine sg_X1_isInTime_2 ho _ (pk_le (sH T) (sH T) (fun _ => ?_) (fun c => by omega) r2.2.1.1 rfl)
    have h := hQ ρ r1 ⟨π, r2⟩
    rw [if_pos (show hld T f t = true from (hl_iff T f t (sH T)).mpr (fun k hk => by
      obtain ⟨i, hi, e⟩ := r2.2.2.2.2.2.1 k hk
      rw [← e]
      exact r3 i hi))] at h
    exact h
  · rintro i ρ hi ⟨r1, r2, r3⟩ ih
    have hpi := (r2.2.2.2.2.1 i hi).1
    refine sg_X1_isInTime_2 ho _ (pk_le (sH T) i (fun c => by omega) (fun _ => ?_) r2.2.1.1 rfl)
    refine nh_loop (α := nh_S) (fun p υ => nh_E kX1_isInTime 12 [some (.ref 83), some (.ref o), some (.int (nI i)), some (.int (nI p))] [] υ Q) (fun p υ => frC [97, 98, 99, 100, 101] τ υ ∧ MV o υ T f t π ∧ ∀ q, q < p → υ.2.1 99 q = ot (cmF T f 0 (π i) q)) (sP T) ?_ ?_ (sP T) 0 ρ (by omega) ⟨r1, r2, fun q hq => by omega⟩
    · rintro υ ⟨u1, u2, u3⟩
      refine sg_X1_isInTime_12 ho _ _ (pk_le (sP T) (sP T) (fun _ => ?_) (fun c => by omega) u2.2.1.2.1 rfl)
      rw [u2.2.1.2.1, bs_full (by omega)]
      have hcb : ∀ p v, p < sP T → cmF T f 0 (π i) p = some v → v ≤ 1000000 := fun p v hp hv => arr_bd hW u2.2.2.1 hpi (hW.2.1.1 p hp).1 hv
      refine c_raise (m := full T) (cm := cmF T f 0 (π i)) isG_98 ho u2.2.1 hW.1 (by have := full_lt hW; omega) u3 hcb (full_clo hW) (fun ξ x1 _ _ => ⟨_, rfl, ?_⟩)
      have hMx := MV_fr u2 hW x1 (by simp)
      have hfx : frC [97, 98, 99, 100, 101] τ ξ := u1.tr (x1.mono (by simp))
      have hst : ∀ v, stO T (cmF T f 0 (π i)) (full T) = some v → v ≤ 1000720 := fun v hv => stO_bd (m := full T) hW hcb v hv
      have hmi : ξ.1 83 7 = nI t := hMx.2.2.2.1
      have bad : okF T f t (π i) = false → nh_E kX8_swap 0 [some (.ref 97), some (.int 0), some (.int (nI i)), none] [] ξ (nh_qv fun τ6 => Q (some (.int 0)) τ6) := by
        intro hb
        refine sg_X8_swap_0 (a0 := 97) (n0 := 9) rfl _ _ ⟨nh_vi (by decide), pk_in i 9 (by omega), rfl, ?_⟩
        rw [pk_cl i rfl (by omega), show (0 : Int32).toNatClampNeg = 0 from rfl]
        have h := hQ _ ((hfx.wa 0 (ξ.2.1 97 i) (by simp)).wa i (ξ.2.1 97 0) (by simp)) (MV_sw hMx hW hi)
        rw [no _ hpi hb] at h
        exact h
      dsimp only
      rw [nI_1]
      have hok : okF T f t (π i) = match stO T (cmF T f 0 (π i)) (full T) with
        | none => false
        | some v => decide (v ≤ t) := rfl
      cases hs : stO T (cmF T f 0 (π i)) (full T) with
      | none =>
        rw [hs] at hok
        exact ⟨fun _ => bad hok, fun c => absurd rfl c⟩
      | some v =>
        have hv := hst v hs
        rw [hs] at hok
        dsimp only at hok
        refine ⟨fun c => absurd c (ot_m1 (by omega)), fun _ => pk_le v t (fun c => ?_) (fun c => bad (by rw [hok]; exact decide_eq_false (by omega))) rfl hmi⟩
        refine ih ξ ⟨hfx, hMx, fun k hk => ?_⟩
        by_cases e : k = i
        · rw [e, hok]; exact decide_eq_true c
        · exact r3 k (by omega)
    · rintro p υ hp ⟨u1, u2, u3⟩ ih2
      have hkp := (hW.2.1.1 p hp).1
      refine sg_X1_isInTime_12 ho _ _ (pk_le (sP T) p (fun c => by omega) (fun _ => ⟨pk_in i 9 (by omega), ?_⟩) u2.2.1.2.1 rfl)
      rw [pk_cl i rfl (by omega), pk_cl p rfl (by omega), (u2.2.2.2.2.1 i hi).2, u2.2.2.2.2.2.2.2 p hp, pk_cl (π i) rfl (by omega), pk_cl (sKp T p) rfl (by omega), u2.2.2.2.2.2.2.1 (π i) (sKp T p) hpi hkp, nI_1]
      refine ⟨pk_in (π i) 9 (by omega), pk_in p 12 (by omega), pk_in (sKp T p) 9 (by omega), ?_⟩
      refine ih2 _ ⟨u1.wa _ _ (by simp), MV_fr u2 hW (frC.wa (frC.rf [99] υ) p _ (by simp)) (by simp), fun q hq => ?_⟩
      rw [bs_get]
      by_cases e : q = p
      · rw [if_pos ⟨rfl, e⟩, e]
        rfl
      · rw [if_neg (fun z => e z.2)]
        exact u3 q (by omega)
theorem c_hold {σ : nh_S} {i : Nat} (hi : i < 2) (x y : Int32) {Q : Option Value → nh_S → Prop} (hQ : Q none (nh_wa (nh_wa σ 84 i x) 85 i y)) : nh_E kX1_hold 0 [some (.ref 83), some (.int (nI i)), some (.int x), some (.int y)] [] σ Q := by
  refine sg_X1_hold_0 _ _ _ ⟨fun q => absurd q (nI_pos (by omega)), fun _ => ⟨fun _ => ⟨pk_in i 2 hi, ?_⟩, fun q => absurd (by rw [show (2 : Int32) = nI 2 from rfl]; exact nI_lt hi (by omega)) q⟩⟩
  rw [pk_cl i rfl (by omega)]
  exact hQ
theorem mh_up {S : SP} {f t q x : Nat} : ∀ {h : Nat} (k : Nat), mh S f t q h = some x → mh S f t q (h + k) = some x := by
  intro h k hh
  induction k with
  | zero => exact hh
  | succ k ih => rw [show h + (k + 1) = (h + k) + 1 from rfl, mh, ih]
theorem m1_up {S : SP} {f t lo : Nat} {x : Nat × Nat} : ∀ {h : Nat} (k : Nat), m1 S f t lo h = some x → m1 S f t lo (h + k) = some x := by
  intro h k hh
  induction k with
  | zero => exact hh
  | succ k ih => rw [show h + (k + 1) = (h + k) + 1 from rfl, m1, ih]
theorem g2_up {S : SP} {f t q x : Nat} : ∀ {h : Nat} (k : Nat), g2 S f t q h = some x → g2 S f t q (h + k) = some x := by
  intro h k hh
  induction k with
  | zero => exact hh
  | succ k ih => rw [show h + (k + 1) = (h + k) + 1 from rfl, g2, ih]
theorem m2_up {S : SP} {f t : Nat} {x : Nat × Nat} : ∀ {h : Nat} (k : Nat), m2 S f t h = some x → m2 S f t (h + k) = some x := by
  intro h k hh
  induction k with
  | zero => exact hh
  | succ k ih => rw [show h + (k + 1) = (h + k) + 1 from rfl, m2, ih]
theorem m1_lo (S : SP) (f t lo : Nat) : ∀ n, n ≤ lo → m1 S f t lo n = none := by
  intro n
  induction n with
  | zero => intro _; rfl
  | succ n ih =>
    intro hn
    rw [m1, ih (by omega)]
    dsimp only
    rw [if_neg (by omega)]
theorem sUp_kp (S : SP) (p : Nat) : sUp S 9 p 0 (sKp S p) = S := by
  funext t i j
  unfold sUp
  split
  · rename_i q
    obtain ⟨rfl, rfl, rfl⟩ := q
    rfl
  · rfl
set_option maxHeartbeats 1000000 in
theorem c_moveOne {T : SP} {σ : nh_S} {o f t : Nat} (hM : MW o σ T f t) (hW : WF T) (ht : t ≤ 999) {i lo : Nat} (hi : i < 2) (hlo : lo ≤ sP T) {Q : Option Value → nh_S → Prop} (hQ : ∀ υ, frC [84, 85, 86, 97, 98, 99, 100, 101] σ υ → (m1 T f t lo (sP T) = none → MW o υ T f t) → (∀ x, m1 T f t lo (sP T) = some x → υ.2.1 84 i = nI x.1 ∧ υ.2.1 85 i = nI x.2) → Q (some (.int (if (m1 T f t lo (sP T)).isSome = true then 1 else 0))) υ) : nh_E kX1_moveOne 0 [some (.ref 83), some (.ref o), some (.int (nI i)), some (.int (nI lo)), none, none, none] [] σ Q := by
  have h9 := hW.1.1
  have h12 := hW.1.2.1
  refine sg_X1_moveOne_0 hM.P _ _ ?_
  refine nh_loop (α := nh_S) (fun q τ => nh_E kX1_moveOne 3 [some (.ref 83), some (.ref o), some (.int (nI i)), none, some (.int (nI q)), none, none] [] τ Q) (fun q τ => frC [84, 85, 86, 97, 98, 99, 100, 101] σ τ ∧ MW o τ T f t ∧ m1 T f t lo q = none ∧ lo ≤ q) (sP T) ?_ ?_ (sP T - lo) lo σ (by omega) ⟨frC.rf _ _, hM, m1_lo T f t lo lo (Nat.le_refl _), Nat.le_refl _⟩
  · rintro τ ⟨t1, t2, t3, -⟩
    have a1 := t2.a1
    refine sg_X1_moveOne_3 hM.P _ _ (pk_le (sP T) (sP T) (fun _ => ?_) (fun c => by omega) a1 rfl)
    have h := hQ τ t1 (fun _ => t2) (fun x hx => by rw [t3] at hx; cases hx)
    rw [t3] at h
    exact h
  · rintro q τ hq ⟨t1, t2, t3, t4⟩ ih
    have a1 := t2.a1
    have hkq := (hW.2.1.1 q hq).1
    refine sg_X1_moveOne_3 hM.P _ _ (pk_le (sP T) q (fun c => by omega) (fun c => ⟨pk_in q 12 (by omega), ?_⟩) a1 rfl)
    rw [pk_cl q rfl (by omega), t2.kp q hq]
    refine nh_loop (α := nh_S) (fun h υ => nh_E kX1_moveOne 24 [some (.ref 83), some (.ref o), some (.int (nI i)), none, some (.int (nI q)), some (.int (nI (sKp T q))), some (.int (nI h))] [] υ Q) (fun h υ => frC [84, 85, 86, 97, 98, 99, 100, 101] σ υ ∧ (∃ g, g < sH T ∧ MW o υ (sUp T 9 q 0 g) f t) ∧ mh T f t q h = none) (sH T) ?_ ?_ (sH T) 0 τ (by omega) ⟨t1, ⟨sKp T q, hkq, by rw [sUp_kp]; exact t2⟩, rfl⟩
    · rintro υ ⟨u1, ⟨g, hg, u2⟩, u3⟩
      have a0 : υ.1 o 0 = nI (sH T) := u2.a0
      refine sg_X1_moveOne_24 hM.P _ _ _ _ (pk_le (sH T) (sH T) (fun _ => ⟨pk_in q 12 (by omega), ?_⟩) (fun c => by omega) a0 rfl)
      rw [pk_cl q rfl (by omega), nI_1]
      have hb := MV_kp (h := sKp T q) u2 (WF_kp hW hg) (p := q) hq
      rw [sUp_back] at hb
      refine ih _ ⟨u1.wa _ _ (by decide), hb, ?_, by omega⟩
      rw [m1, t3]
      dsimp only
      rw [if_pos t4, u3]
      rfl
    · rintro h υ hh ⟨u1, ⟨g, hg, u2⟩, u3⟩ ih2
      have a0 : υ.1 o 0 = nI (sH T) := u2.a0
      refine sg_X1_moveOne_24 hM.P _ _ _ _ (pk_le (sH T) h (fun c => by omega) (fun c => ⟨pk_in q 12 (by omega), ?_⟩) a0 rfl)
      rw [pk_cl q rfl (by omega), nI_1]
      have hb := MV_kp (h := h) u2 (WF_kp hW hg) (p := q) hq
      rw [sUp_two] at hb
      have hfr : frC [84, 85, 86, 97, 98, 99, 100, 101] σ (nh_wa υ 86 q (nI h)) := u1.wa _ _ (by decide)
      have step : mh T f t q (h + 1) = if h ≠ sKp T q ∧ hld (sUp T 9 q 0 h) f t = true then some h else none := by rw [mh, u3]
      refine pk_eq h (sKp T q) (fun c5 => ?_) (fun c5 => ?_)
      · refine ih2 _ ⟨hfr, ⟨h, hh, hb⟩, ?_⟩
        rw [step, if_neg (fun z => z.1 c5)]
      · refine c_isInTime hb (WF_kp hW hh) ht (fun ρ r1 r2 => ⟨_, rfl, fun c6 => ?_, fun c6 => ?_⟩)
        · refine ih2 ρ ⟨hfr.tr (r1.mono (by simp)), ⟨h, hh, r2⟩, ?_⟩
          rw [step, if_neg (fun z => by rw [b01.mp c6] at z; exact absurd z.2 (by decide))]
        · have hhl : hld (sUp T 9 q 0 h) f t = true := by
            cases z : hld (sUp T 9 q 0 h) f t with
            | true => rfl
            | false => exact absurd (b01.mpr z) c6
          have em : mh T f t q (sH T) = some h := by
            have := mh_up (sH T - (h + 1)) (show mh T f t q (h + 1) = some h by rw [step, if_pos ⟨c5, hhl⟩])
            rw [show h + 1 + (sH T - (h + 1)) = sH T by omega] at this
            exact this
          have e2 : m1 T f t lo (sP T) = some (q, h) := by
            have e1 : m1 T f t lo (q + 1) = some (q, h) := by
              rw [m1, t3]
              dsimp only
              rw [if_pos t4, em]
              rfl
            have := m1_up (sP T - (q + 1)) e1
            rw [show q + 1 + (sP T - (q + 1)) = sP T by omega] at this
            exact this
          refine c_hold hi _ _ ⟨rfl, ?_⟩
          have hq2 := hQ (nh_wa (nh_wa ρ 84 i (nI q)) 85 i (nI h)) (((hfr.tr (r1.mono (by simp))).wa _ _ (by decide)).wa _ _ (by decide)) (fun z => by rw [e2] at z; cases z) (fun x hx => by
            rw [e2] at hx
            cases hx
            refine ⟨?_, ?_⟩
            · rw [wa_ne _ _ _ (by decide), bs_get, if_pos ⟨rfl, rfl⟩]
            · rw [bs_get, if_pos ⟨rfl, rfl⟩])
          rw [e2] at hq2
          exact hq2
set_option maxHeartbeats 1000000 in
theorem c_moveTwo {T : SP} {σ : nh_S} {o f t : Nat} (hM : MW o σ T f t) (hW : WF T) (ht : t ≤ 999) {Q : Option Value → nh_S → Prop} (hQ : ∀ υ, frC [84, 85, 86, 97, 98, 99, 100, 101] σ υ → (∀ x, m2 T f t (sP T) = some x → υ.2.1 84 0 = nI x.1 ∧ υ.2.1 85 0 = nI x.2 ∧ ∀ y, m1 (sUp T 9 x.1 0 x.2) f t (x.1 + 1) (sP T) = some y → υ.2.1 84 1 = nI y.1 ∧ υ.2.1 85 1 = nI y.2) → Q (some (.int (if (m2 T f t (sP T)).isSome = true then 1 else 0))) υ) : nh_E kX1_moveTwo 0 [some (.ref 83), some (.ref o), none, none, none] [] σ Q := by
  have h9 := hW.1.1
  have h12 := hW.1.2.1
  refine sg_X1_moveTwo_0 hM.P ?_
  refine nh_loop (α := nh_S) (fun q τ => nh_E kX1_moveTwo 2 [some (.ref 83), some (.ref o), some (.int (nI q)), none, none] [] τ Q) (fun q τ => frC [84, 85, 86, 97, 98, 99, 100, 101] σ τ ∧ MW o τ T f t ∧ m2 T f t q = none) (sP T) ?_ ?_ (sP T) 0 σ (by omega) ⟨frC.rf _ _, hM, rfl⟩
  · rintro τ ⟨t1, t2, t3⟩
    have a1 := t2.a1
    refine sg_X1_moveTwo_2 hM.P _ (pk_le (sP T) (sP T) (fun _ => ?_) (fun c => by omega) a1 rfl)
    have h := hQ τ t1 (fun x hx => by rw [t3] at hx; cases hx)
    rw [t3] at h
    exact h
  · rintro q τ hq ⟨t1, t2, t3⟩ ih
    have a1 := t2.a1
    have hkq := (hW.2.1.1 q hq).1
    refine sg_X1_moveTwo_2 hM.P _ (pk_le (sP T) q (fun c => by omega) (fun c => ⟨pk_in q 12 (by omega), ?_⟩) a1 rfl)
    rw [pk_cl q rfl (by omega), t2.kp q hq]
    refine nh_loop (α := nh_S) (fun h υ => nh_E kX1_moveTwo 20 [some (.ref 83), some (.ref o), some (.int (nI q)), some (.int (nI (sKp T q))), some (.int (nI h))] [] υ Q) (fun h υ => frC [84, 85, 86, 97, 98, 99, 100, 101] σ υ ∧ (∃ g, g < sH T ∧ MW o υ (sUp T 9 q 0 g) f t) ∧ g2 T f t q h = none) (sH T) ?_ ?_ (sH T) 0 τ (by omega) ⟨t1, ⟨sKp T q, hkq, by rw [sUp_kp]; exact t2⟩, rfl⟩
    · rintro υ ⟨u1, ⟨g, hg, u2⟩, u3⟩
      have a0 : υ.1 o 0 = nI (sH T) := u2.a0
      refine sg_X1_moveTwo_20 hM.P _ _ _ (pk_le (sH T) (sH T) (fun _ => ⟨pk_in q 12 (by omega), ?_⟩) (fun c => by omega) a0 rfl)
      rw [pk_cl q rfl (by omega), nI_1]
      have hb := MV_kp (h := sKp T q) u2 (WF_kp hW hg) (p := q) hq
      rw [sUp_back] at hb
      refine ih _ ⟨u1.wa _ _ (by decide), hb, ?_⟩
      rw [m2, t3]
      dsimp only
      rw [u3]
      rfl
    · rintro h υ hh ⟨u1, ⟨g, hg, u2⟩, u3⟩ ih2
      have a0 : υ.1 o 0 = nI (sH T) := u2.a0
      refine sg_X1_moveTwo_20 hM.P _ _ _ (pk_le (sH T) h (fun c => by omega) (fun c => ⟨pk_in q 12 (by omega), ?_⟩) a0 rfl)
      rw [pk_cl q rfl (by omega), nI_1, nI_1]
      have hb := MV_kp (h := h) u2 (WF_kp hW hg) (p := q) hq
      rw [sUp_two] at hb
      have hfr : frC [84, 85, 86, 97, 98, 99, 100, 101] σ (nh_wa υ 86 q (nI h)) := u1.wa _ _ (by decide)
      have step : g2 T f t q (h + 1) = if h ≠ sKp T q ∧ (m1 (sUp T 9 q 0 h) f t (q + 1) (sP T)).isSome = true then some h else none := by rw [g2, u3]
      refine pk_eq h (sKp T q) (fun c5 => ?_) (fun c5 => ?_)
      · refine ih2 _ ⟨hfr, ⟨h, hh, hb⟩, ?_⟩
        rw [step, if_neg (fun z => z.1 c5)]
      · refine c_moveOne hb (WF_kp hW hh) ht (i := 1) (lo := q + 1) (by omega) (show q + 1 ≤ sP T by omega) (fun ρ r1 r2 r3 => ⟨_, rfl, ?_⟩)
        have r2 : m1 (sUp T 9 q 0 h) f t (q + 1) (sP T) = none → MW o ρ (sUp T 9 q 0 h) f t := r2
        have r3 : ∀ x, m1 (sUp T 9 q 0 h) f t (q + 1) (sP T) = some x → ρ.2.1 84 1 = nI x.1 ∧ ρ.2.1 85 1 = nI x.2 := r3
        show ((if (m1 (sUp T 9 q 0 h) f t (q + 1) (sP T)).isSome = true then 1 else 0 : Int32) = 0 → _) ∧ (¬ (if (m1 (sUp T 9 q 0 h) f t (q + 1) (sP T)).isSome = true then 1 else 0 : Int32) = 0 → _)
        refine ⟨fun c6 => ?_, fun c6 => ?_⟩
        · have z := b01.mp c6
          refine ih2 ρ ⟨hfr.tr r1, ⟨h, hh, r2 (by cases y : m1 (sUp T 9 q 0 h) f t (q + 1) (sP T) with | none => rfl | some v => rw [y] at z; cases z)⟩, ?_⟩
          rw [step, if_neg (fun y => by rw [z] at y; exact absurd y.2 (by decide))]
        · have hhl : (m1 (sUp T 9 q 0 h) f t (q + 1) (sP T)).isSome = true := by
            cases z : (m1 (sUp T 9 q 0 h) f t (q + 1) (sP T)).isSome with
            | true => rfl
            | false => exact absurd (b01.mpr z) c6
          have em : g2 T f t q (sH T) = some h := by
            have := g2_up (sH T - (h + 1)) (show g2 T f t q (h + 1) = some h by rw [step, if_pos ⟨c5, hhl⟩])
            rw [show h + 1 + (sH T - (h + 1)) = sH T by omega] at this
            exact this
          have e2 : m2 T f t (sP T) = some (q, h) := by
            have e1 : m2 T f t (q + 1) = some (q, h) := by
              rw [m2, t3]
              dsimp only
              rw [em]
              rfl
            have := m2_up (sP T - (q + 1)) e1
            rw [show q + 1 + (sP T - (q + 1)) = sP T by omega] at this
            exact this
          refine c_hold (i := 0) (by omega) _ _ ⟨rfl, ?_⟩
          have hq2 := hQ (nh_wa (nh_wa ρ 84 0 (nI q)) 85 0 (nI h)) (((hfr.tr r1).wa _ _ (by decide)).wa _ _ (by decide)) (fun x hx => by
            rw [e2] at hx
            cases hx
            refine ⟨?_, ?_, fun y hy => ?_⟩
            · rw [wa_ne _ _ _ (by decide), bs_get, if_pos ⟨rfl, rfl⟩]
            · rw [bs_get, if_pos ⟨rfl, rfl⟩]
            · obtain ⟨y1, y2⟩ := r3 y hy
              refine ⟨?_, ?_⟩
              · rw [wa_ne _ _ _ (by decide), bs_get, if_neg (by omega)]; exact y1
              · rw [bs_get, if_neg (by omega), wa_ne _ _ _ (by decide)]; exact y2)
          rw [e2] at hq2
          exact hq2
