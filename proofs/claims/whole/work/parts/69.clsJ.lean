/-! THE CLASS: where PARTS are kept -/
theorem gst_kp (S : SP) (p h : Nat) : gst (sUp S 9 p 0 h) = gst S := rfl
theorem go_kp (S : SP) (p h f : Nat) (aw : Nat → Bool) (L : List Nat) (x : (Nat → Option Nat) × Nat × Nat × Nat) : go (sUp S 9 p 0 h) f aw L x = go S f aw L x := by
  unfold go
  rw [gst_kp]
theorem tim_kp (S : SP) (p h f : Nat) (aw : Nat → Bool) : ∀ (L : List Nat) (t q b : Nat), tim (sUp S 9 p 0 h) f aw L t q b = tim S f aw L t q b
  | [], t, q, b => rfl
  | c :: L, t, q, b => by
    rw [tim, tim, tim_kp S p h f aw L]
    rfl
theorem Fin_kp (S : SP) (p h n : Nat) (pa pb : Nat → Nat) (f : Nat) (aw : Nat → Bool) (x : (Nat → Option Nat) × (Nat → Option (Nat × Nat))) : Fin (sUp S 9 p 0 h) n pa pb f aw x = Fin S n pa pb f aw x := by
  unfold Fin Inv rend
  simp only [tim_kp, go_kp]
  rfl
theorem fwS_kp (S : SP) (p h f a : Nat) : fwS (sUp S 9 p 0 h) f a = fwS S f a := by
  show fw (sUp S 9 p 0 h) (sPn S) (sPa S) (sPb S) f a.testBit = fw S (sPn S) (sPa S) (sPb S) f a.testBit
  unfold fw
  congr 1
  funext x
  exact Fin_kp S p h _ _ _ f _ x
def MV (τ : nh_S) (T : SP) (f t : Nat) : Prop := isP (τ.2.2 0 11) ∧ τ.2.2 83 6 = τ.2.2 0 11 ∧ CRc τ (τ.2.2 0 11) T ∧ WK τ T (fwS T f 0) ∧ bdW T (fwS T f 0) ∧ τ.1 83 7 = nI t ∧ (∃ d, d < sH T ∧ τ.1 83 8 = nI d) ∧ ∀ p, p < sP T → τ.2.1 86 p = nI (sKp T p)
theorem MV_kp {τ : nh_S} {T : SP} {f t p h : Nat} (hM : MV τ T f t) (hW : WF T) (hp : p < sP T) : MV (nh_wa τ 86 p (nI h)) (sUp T 9 p 0 h) f t := by
  obtain ⟨m1, m2, m3, m4, m5, m6, m7, m8⟩ := hM
  have d1 := m1
  unfold isP at d1
  refine ⟨m1, m2, ?_, ?_, ?_, m6, m7, fun q hq => ?_⟩
  · exact CRc_tr m3 hW.1 rfl (fun k h1 h2 => wa_ne τ _ _ (by show k ≠ 86; have h2 : k ≤ τ.2.2 0 11 + 21 := h2; omega)) (fun t ht => sUp_ne T (by omega) p 0 h)
  · rw [fwS_kp]
    exact WK_pr m4 (wa_ne τ _ _ (by decide)) (wa_ne τ _ _ (by decide)) (wa_ne τ _ _ (by decide))
  · rw [fwS_kp]
    exact m5
  · rw [bs_get]
    show _ = nI (sUp T 9 p 0 h 9 q 0)
    rw [sUp_at]
    by_cases e : q = p
    · rw [if_pos ⟨rfl, e⟩, if_pos ⟨e, rfl⟩]
    · rw [if_neg (fun z => e z.2), if_neg (fun z => e z.1)]
      exact m8 q hq
theorem MV_fr {τ υ : nh_S} {T : SP} {f t : Nat} (hM : MV τ T f t) (hW : WF T) {ks : List Nat} (hf : frC ks τ υ) (hk : ∀ k ∈ ks, 17 ≤ k ∧ k ≤ 20) : MV υ T f t := by
  obtain ⟨m1, m2, m3, m4, m5, m6, m7, m8⟩ := hM
  have d1 := m1
  unfold isP at d1
  have n : ∀ k, (k < 17 ∨ 20 < k) → k ∉ ks := fun k h q => by have := hk k q; omega
  refine ⟨by rw [hf.2]; exact m1, by rw [hf.2]; exact m2, ?_, WK_pr m4 (hf.1 13 (n 13 (by omega))).2 (hf.1 14 (n 14 (by omega))).2 (hf.1 15 (n 15 (by omega))).2, m5, ?_, ?_, fun p hp => ?_⟩
  · rw [hf.2]
    exact CRc_tr m3 hW.1 (hf.1 _ (n _ (by omega))).1 (fun k h1 h2 => (hf.1 k (n k (by omega))).2) (fun _ _ => rfl)
  · rw [(hf.1 83 (n 83 (by omega))).1]; exact m6
  · rw [(hf.1 83 (n 83 (by omega))).1]; exact m7
  · rw [(hf.1 86 (n 86 (by omega))).2]; exact m8 p hp
theorem MV_db {τ : nh_S} {T : SP} {f t d : Nat} (hM : MV τ T f t) (hW : WF T) (hd : d < sH T) : MV (nh_si τ 83 8 (nI d)) T f t := by
  obtain ⟨m1, m2, m3, m4, m5, m6, m7, m8⟩ := hM
  have d1 := m1
  unfold isP at d1
  refine ⟨m1, m2, ?_, m4, m5, ?_, ⟨d, hd, ?_⟩, m8⟩
  · exact CRc_tr m3 hW.1 (si_neK τ _ _ (by show τ.2.2 0 11 ≠ 83; omega)) (fun _ _ _ => rfl) (fun _ _ => rfl)
  · rw [bs_geti, if_neg (by omega)]; exact m6
  · rw [bs_geti, if_pos ⟨rfl, rfl⟩]
noncomputable def okF (S : SP) (f t n : Nat) : Bool := match stF S f 0 n with
  | none => false
  | some v => decide (v ≤ t)
theorem hl_iff (S : SP) (f t : Nat) : ∀ n, hl S f t n = true ↔ ∀ k, k < n → okF S f t k = true
  | 0 => ⟨fun _ k hk => by omega, fun _ => rfl⟩
  | n + 1 => by
    show (hl S f t n && okF S f t n) = true ↔ _
    rw [Bool.and_eq_true, hl_iff S f t n]
    constructor
    · rintro ⟨h1, h2⟩ k hk
      by_cases e : k = n
      · rw [e]; exact h2
      · exact h1 k (by omega)
    · intro h
      exact ⟨fun k hk => h k (by omega), h n (by omega)⟩
theorem c_isInTimeAt {T : SP} {τ : nh_S} {f t : Nat} (hM : MV τ T f t) (hW : WF T) (ht : t ≤ 999) {fire : Nat} (hfi : fire < sH T) {Q : Option Value → nh_S → Prop} (hQ : ∀ υ, frC [17, 18, 19, 20] τ υ → MV υ T f t → Q (some (.int (if okF T f t fire = true then 1 else 0))) υ) : nh_E kX1_isInTimeAt 0 [some (.ref 83), some (.int (nI fire)), none] [] τ Q := by
  have h12 := hW.1.2.1
  refine sg_X1_isInTimeAt_0 _ ⟨by rw [hM.2.1]; exact hM.1, ?_⟩
  rw [hM.2.1]
  refine c_gather (kp := sKp T) isG_17 hM.1 (a3 := 86) rfl (by omega) hM.2.2.1 hW.1 hM.2.2.2.1 hM.2.2.2.2.1 (fun p hp => ⟨hM.2.2.2.2.2.2.2 p hp, (hW.2.1.1 p hp).1⟩) hfi (fun υ u1 u2 => ⟨rfl, ?_⟩)
  have hMu := MV_fr hM hW u1 (by simp)
  refine ⟨by rw [hMu.2.1]; exact hMu.1, ?_⟩
  rw [hMu.2.1, hMu.2.2.1.2.1, bs_full (by omega)]
  have hcb : ∀ p v, p < sP T → cmF T f 0 fire p = some v → v ≤ 1000000 := fun p v hp hv => arr_bd hW hM.2.2.2.2.1 hfi (hW.2.1.1 p hp).1 hv
  refine c_raise (m := full T) (cm := cmF T f 0 fire) isG_17 hMu.1 hMu.2.2.1 hW.1 (by have := full_lt hW; omega) u2 hcb (full_clo hW) (fun ρ r1 _ _ => ⟨_, rfl, ?_⟩)
  have hMr := MV_fr hMu hW r1 (by simp)
  have h := hQ ρ ((u1.mono (by simp)).tr (r1.mono (by simp))) hMr
  have hst : ∀ v, stO T (cmF T f 0 fire) (full T) = some v → v ≤ 1000720 := fun v hv => stO_bd (m := full T) hW hcb v hv
  dsimp only
  rw [hMr.2.2.2.2.2.1]
  unfold okF stF at h
  cases hs : stO T (cmF T f 0 fire) (full T) with
  | none =>
    rw [hs] at h
    rw [if_neg (fun q => q.1 rfl)]
    exact h
  | some v =>
    have hv := hst v hs
    rw [hs] at h
    dsimp only at h
    by_cases e : v ≤ t
    · rw [if_pos (decide_eq_true e)] at h
      rw [if_pos ⟨ot_m1 (by omega), by rw [ot_some, nI_ltI (by omega) (by omega)]; omega⟩]
      exact h
    · rw [if_neg (fun q => e (of_decide_eq_true q))] at h
      rw [if_neg (fun q => q.2 (by rw [ot_some, nI_ltI (by omega) (by omega)]; omega))]
      exact h
theorem b01 {b : Bool} : ((if b = true then 1 else 0 : Int32) = 0) ↔ b = false := by
  cases b <;> decide
theorem c_isInTime {T : SP} {τ : nh_S} {f t : Nat} (hM : MV τ T f t) (hW : WF T) (ht : t ≤ 999) {Q : Option Value → nh_S → Prop} (hQ : ∀ υ, frC [17, 18, 19, 20, 83] τ υ → MV υ T f t → Q (some (.int (if hld T f t = true then 1 else 0))) υ) : nh_E kX1_isInTime 0 [some (.ref 83), none] [] τ Q := by
  have h9 := hW.1.1
  have no : ∀ k, k < sH T → okF T f t k = false → hld T f t = false := by
    intro k hk h
    cases q : hld T f t with
    | false => rfl
    | true => rw [(hl_iff T f t (sH T)).mp q k hk] at h; cases h
  obtain ⟨d, hd, ed⟩ := hM.2.2.2.2.2.2.1
  refine sg_X1_isInTime_0 ?_
  rw [ed]
  refine c_isInTimeAt hM hW ht hd (fun υ u1 u2 => ⟨_, rfl, fun c => ?_, fun c => ?_⟩)
  · have okd : okF T f t d = true := by
      cases q : okF T f t d with
      | true => rfl
      | false => exact absurd (b01.mpr q) c
    have u8 : υ.1 83 8 = nI d := by rw [(u1.1 83 (by decide)).1]; exact ed
    refine nh_loop (α := nh_S) (fun i ρ => nh_E kX1_isInTime 15 [some (.ref 83), some (.int (nI i))] [] ρ Q) (fun i ρ => frC [17, 18, 19, 20, 83] τ ρ ∧ MV ρ T f t ∧ ρ.1 83 8 = nI d ∧ ∀ k, k < i → okF T f t k = true) (sH T) ?_ ?_ (sH T) 0 υ (by omega) ⟨u1.mono (by simp), u2, u8, fun k hk => by omega⟩
    · rintro ρ ⟨r1, r2, r3, r4⟩
      have a0 : ρ.1 (ρ.2.2 83 6) 0 = nI (sH T) := by rw [r2.2.1]; exact r2.2.2.1.1
      refine sg_X1_isInTime_15 _ ⟨by rw [r2.2.1]; exact r2.1, pk_le (sH T) (sH T) (fun _ => ?_) (fun c => by omega) a0 rfl⟩
      have h := hQ ρ r1 r2
      rw [if_pos (show hld T f t = true from (hl_iff T f t (sH T)).mpr r4)] at h
      exact h
    · rintro i ρ hi ⟨r1, r2, r3, r4⟩ ih
      have a0 : ρ.1 (ρ.2.2 83 6) 0 = nI (sH T) := by rw [r2.2.1]; exact r2.2.2.1.1
      refine sg_X1_isInTime_15 _ ⟨by rw [r2.2.1]; exact r2.1, pk_le (sH T) i (fun c => by omega) (fun c => ?_) a0 rfl⟩
      rw [r3, nI_1]
      refine pk_eq i d (fun c5 => ?_) (fun c5 => ?_)
      · refine ih ρ ⟨r1, r2, r3, fun k hk => ?_⟩
        by_cases e : k = i
        · rw [e, c5]; exact okd
        · exact r4 k (by omega)
      · refine c_isInTimeAt r2 hW ht hi (fun ξ x1 x2 => ⟨_, rfl, fun c6 => ?_, fun c6 => ?_⟩)
        · have oki : okF T f t i = true := by
            cases q : okF T f t i with
            | true => rfl
            | false => exact absurd (b01.mpr q) c6
          refine ih ξ ⟨r1.tr (x1.mono (by simp)), x2, by rw [(x1.1 83 (by decide)).1]; exact r3, fun k hk => ?_⟩
          by_cases e : k = i
          · rw [e]; exact oki
          · exact r4 k (by omega)
        · have h := hQ _ ((r1.tr (x1.mono (by simp))).si 8 (nI i) (by decide)) (MV_db x2 hW hi)
          rw [no i hi (b01.mp c6)] at h
          exact h
  · have h := hQ υ (u1.mono (by simp)) u2
    rw [no d hd (b01.mp c)] at h
    exact h
theorem c_hold {σ : nh_S} {i : Nat} (hi : i < 2) (x y : Int32) {Q : Option Value → nh_S → Prop} (hQ : Q none (nh_wa (nh_wa σ 84 i x) 85 i y)) : nh_E kX1_hold 0 [some (.ref 83), some (.int (nI i)), some (.int x), some (.int y)] [] σ Q := by
  refine sg_X1_hold_0 _ _ _ ⟨fun q => absurd q (nI_pos (by omega)), fun _ => ⟨fun _ => ⟨pk_in i 2 hi, ?_⟩, fun q => absurd (by rw [show (2 : Int32) = nI 2 from rfl]; exact nI_lt hi (by omega)) q⟩⟩
  rw [pk_cl i rfl (by omega)]
  exact hQ
theorem mh_up {S : SP} {f t q x : Nat} : ∀ {h : Nat} (k : Nat), mh S f t q h = some x → mh S f t q (h + k) = some x := by
  intro h k hh
  induction k with
  | zero => exact hh
  | succ k ih => rw [show h + (k + 1) = (h + k) + 1 from rfl, mh, ih]
theorem m1_up {S : SP} {f t lo : Nat} {x : Nat × Nat} : ∀ {h : Nat} (k : Nat), m1 S f t lo h = some x → m1 S f t lo (h + k) = some x := by
  intro h k hh
  induction k with
  | zero => exact hh
  | succ k ih => rw [show h + (k + 1) = (h + k) + 1 from rfl, m1, ih]
theorem g2_up {S : SP} {f t q x : Nat} : ∀ {h : Nat} (k : Nat), g2 S f t q h = some x → g2 S f t q (h + k) = some x := by
  intro h k hh
  induction k with
  | zero => exact hh
  | succ k ih => rw [show h + (k + 1) = (h + k) + 1 from rfl, g2, ih]
theorem m2_up {S : SP} {f t : Nat} {x : Nat × Nat} : ∀ {h : Nat} (k : Nat), m2 S f t h = some x → m2 S f t (h + k) = some x := by
  intro h k hh
  induction k with
  | zero => exact hh
  | succ k ih => rw [show h + (k + 1) = (h + k) + 1 from rfl, m2, ih]
theorem m1_lo (S : SP) (f t lo : Nat) : ∀ n, n ≤ lo → m1 S f t lo n = none := by
  intro n
  induction n with
  | zero => intro _; rfl
  | succ n ih =>
    intro hn
    rw [m1, ih (by omega)]
    dsimp only
    rw [if_neg (by omega)]
theorem sUp_kp (S : SP) (p : Nat) : sUp S 9 p 0 (sKp S p) = S := by
  funext t i j
  unfold sUp
  split
  · rename_i q
    obtain ⟨rfl, rfl, rfl⟩ := q
    rfl
  · rfl
set_option maxHeartbeats 1000000 in
theorem c_moveOne {T : SP} {σ : nh_S} {f t : Nat} (hM : MV σ T f t) (hW : WF T) (ht : t ≤ 999) {i lo : Nat} (hi : i < 2) (hlo : lo ≤ sP T) {Q : Option Value → nh_S → Prop} (hQ : ∀ υ, frC [17, 18, 19, 20, 83, 84, 85, 86] σ υ → (m1 T f t lo (sP T) = none → MV υ T f t) → (∀ x, m1 T f t lo (sP T) = some x → υ.2.1 84 i = nI x.1 ∧ υ.2.1 85 i = nI x.2) → Q (some (.int (if (m1 T f t lo (sP T)).isSome = true then 1 else 0))) υ) : nh_E kX1_moveOne 0 [some (.ref 83), some (.int (nI i)), some (.int (nI lo)), none, none, none] [] σ Q := by
  have h9 := hW.1.1
  have h12 := hW.1.2.1
  refine sg_X1_moveOne_0 _ _ ?_
  refine nh_loop (α := nh_S) (fun q τ => nh_E kX1_moveOne 2 [some (.ref 83), some (.int (nI i)), none, some (.int (nI q)), none, none] [] τ Q) (fun q τ => frC [17, 18, 19, 20, 83, 84, 85, 86] σ τ ∧ MV τ T f t ∧ m1 T f t lo q = none ∧ lo ≤ q) (sP T) ?_ ?_ (sP T - lo) lo σ (by omega) ⟨frC.rf _ _, hM, m1_lo T f t lo lo (Nat.le_refl _), Nat.le_refl _⟩
  · rintro τ ⟨t1, t2, t3, -⟩
    have a1 : τ.1 (τ.2.2 83 6) 1 = nI (sP T) := by rw [t2.2.1]; exact t2.2.2.1.2.1
    refine sg_X1_moveOne_2 _ _ ⟨by rw [t2.2.1]; exact t2.1, pk_le (sP T) (sP T) (fun _ => ?_) (fun c => by omega) a1 rfl⟩
    have h := hQ τ t1 (fun _ => t2) (fun x hx => by rw [t3] at hx; cases hx)
    rw [t3] at h
    exact h
  · rintro q τ hq ⟨t1, t2, t3, t4⟩ ih
    have a1 : τ.1 (τ.2.2 83 6) 1 = nI (sP T) := by rw [t2.2.1]; exact t2.2.2.1.2.1
    have hkq := (hW.2.1.1 q hq).1
    refine sg_X1_moveOne_2 _ _ ⟨by rw [t2.2.1]; exact t2.1, pk_le (sP T) q (fun c => by omega) (fun c => ⟨pk_in q 12 (by omega), ?_⟩) a1 rfl⟩
    rw [pk_cl q rfl (by omega), t2.2.2.2.2.2.2.2 q hq]
    refine nh_loop (α := nh_S) (fun h υ => nh_E kX1_moveOne 24 [some (.ref 83), some (.int (nI i)), none, some (.int (nI q)), some (.int (nI (sKp T q))), some (.int (nI h))] [] υ Q) (fun h υ => frC [17, 18, 19, 20, 83, 84, 85, 86] σ υ ∧ (∃ g, g < sH T ∧ MV υ (sUp T 9 q 0 g) f t) ∧ mh T f t q h = none) (sH T) ?_ ?_ (sH T) 0 τ (by omega) ⟨t1, ⟨sKp T q, hkq, by rw [sUp_kp]; exact t2⟩, rfl⟩
    · rintro υ ⟨u1, ⟨g, hg, u2⟩, u3⟩
      have a0 : υ.1 (υ.2.2 83 6) 0 = nI (sH T) := by rw [u2.2.1]; exact u2.2.2.1.1
      refine sg_X1_moveOne_24 _ _ _ _ ⟨by rw [u2.2.1]; exact u2.1, pk_le (sH T) (sH T) (fun _ => ⟨pk_in q 12 (by omega), ?_⟩) (fun c => by omega) a0 rfl⟩
      rw [pk_cl q rfl (by omega), nI_1]
      have hb := MV_kp (h := sKp T q) u2 (WF_kp hW hg) (p := q) hq
      rw [sUp_back] at hb
      refine ih _ ⟨u1.wa _ _ (by decide), hb, ?_, by omega⟩
      rw [m1, t3]
      dsimp only
      rw [if_pos t4, u3]
      rfl
    · rintro h υ hh ⟨u1, ⟨g, hg, u2⟩, u3⟩ ih2
      have a0 : υ.1 (υ.2.2 83 6) 0 = nI (sH T) := by rw [u2.2.1]; exact u2.2.2.1.1
      refine sg_X1_moveOne_24 _ _ _ _ ⟨by rw [u2.2.1]; exact u2.1, pk_le (sH T) h (fun c => by omega) (fun c => ⟨pk_in q 12 (by omega), ?_⟩) a0 rfl⟩
      rw [pk_cl q rfl (by omega), nI_1]
      have hb := MV_kp (h := h) u2 (WF_kp hW hg) (p := q) hq
      rw [sUp_two] at hb
      have hfr : frC [17, 18, 19, 20, 83, 84, 85, 86] σ (nh_wa υ 86 q (nI h)) := u1.wa _ _ (by decide)
      have step : mh T f t q (h + 1) = if h ≠ sKp T q ∧ hld (sUp T 9 q 0 h) f t = true then some h else none := by rw [mh, u3]
      refine pk_eq h (sKp T q) (fun c5 => ?_) (fun c5 => ?_)
      · refine ih2 _ ⟨hfr, ⟨h, hh, hb⟩, ?_⟩
        rw [step, if_neg (fun z => z.1 c5)]
      · refine c_isInTime hb (WF_kp hW hh) ht (fun ρ r1 r2 => ⟨_, rfl, fun c6 => ?_, fun c6 => ?_⟩)
        · refine ih2 ρ ⟨hfr.tr (r1.mono (by simp)), ⟨h, hh, r2⟩, ?_⟩
          rw [step, if_neg (fun z => by rw [b01.mp c6] at z; exact absurd z.2 (by decide))]
        · have hhl : hld (sUp T 9 q 0 h) f t = true := by
            cases z : hld (sUp T 9 q 0 h) f t with
            | true => rfl
            | false => exact absurd (b01.mpr z) c6
          have em : mh T f t q (sH T) = some h := by
            have := mh_up (sH T - (h + 1)) (show mh T f t q (h + 1) = some h by rw [step, if_pos ⟨c5, hhl⟩])
            rw [show h + 1 + (sH T - (h + 1)) = sH T by omega] at this
            exact this
          have e2 : m1 T f t lo (sP T) = some (q, h) := by
            have e1 : m1 T f t lo (q + 1) = some (q, h) := by
              rw [m1, t3]
              dsimp only
              rw [if_pos t4, em]
              rfl
            have := m1_up (sP T - (q + 1)) e1
            rw [show q + 1 + (sP T - (q + 1)) = sP T by omega] at this
            exact this
          refine c_hold hi _ _ ⟨rfl, ?_⟩
          have hq2 := hQ (nh_wa (nh_wa ρ 84 i (nI q)) 85 i (nI h)) (((hfr.tr (r1.mono (by simp))).wa _ _ (by decide)).wa _ _ (by decide)) (fun z => by rw [e2] at z; cases z) (fun x hx => by
            rw [e2] at hx
            cases hx
            refine ⟨?_, ?_⟩
            · rw [wa_ne _ _ _ (by decide), bs_get, if_pos ⟨rfl, rfl⟩]
            · rw [bs_get, if_pos ⟨rfl, rfl⟩])
          rw [e2] at hq2
          exact hq2
set_option maxHeartbeats 1000000 in
theorem c_moveTwo {T : SP} {σ : nh_S} {f t : Nat} (hM : MV σ T f t) (hW : WF T) (ht : t ≤ 999) {Q : Option Value → nh_S → Prop} (hQ : ∀ υ, frC [17, 18, 19, 20, 83, 84, 85, 86] σ υ → (∀ x, m2 T f t (sP T) = some x → υ.2.1 84 0 = nI x.1 ∧ υ.2.1 85 0 = nI x.2 ∧ ∀ y, m1 (sUp T 9 x.1 0 x.2) f t (x.1 + 1) (sP T) = some y → υ.2.1 84 1 = nI y.1 ∧ υ.2.1 85 1 = nI y.2) → Q (some (.int (if (m2 T f t (sP T)).isSome = true then 1 else 0))) υ) : nh_E kX1_moveTwo 0 [some (.ref 83), none, none, none] [] σ Q := by
  have h9 := hW.1.1
  have h12 := hW.1.2.1
  refine sg_X1_moveTwo_0 ?_
  refine nh_loop (α := nh_S) (fun q τ => nh_E kX1_moveTwo 2 [some (.ref 83), some (.int (nI q)), none, none] [] τ Q) (fun q τ => frC [17, 18, 19, 20, 83, 84, 85, 86] σ τ ∧ MV τ T f t ∧ m2 T f t q = none) (sP T) ?_ ?_ (sP T) 0 σ (by omega) ⟨frC.rf _ _, hM, rfl⟩
  · rintro τ ⟨t1, t2, t3⟩
    have a1 : τ.1 (τ.2.2 83 6) 1 = nI (sP T) := by rw [t2.2.1]; exact t2.2.2.1.2.1
    refine sg_X1_moveTwo_2 _ ⟨by rw [t2.2.1]; exact t2.1, pk_le (sP T) (sP T) (fun _ => ?_) (fun c => by omega) a1 rfl⟩
    have h := hQ τ t1 (fun x hx => by rw [t3] at hx; cases hx)
    rw [t3] at h
    exact h
  · rintro q τ hq ⟨t1, t2, t3⟩ ih
    have a1 : τ.1 (τ.2.2 83 6) 1 = nI (sP T) := by rw [t2.2.1]; exact t2.2.2.1.2.1
    have hkq := (hW.2.1.1 q hq).1
    refine sg_X1_moveTwo_2 _ ⟨by rw [t2.2.1]; exact t2.1, pk_le (sP T) q (fun c => by omega) (fun c => ⟨pk_in q 12 (by omega), ?_⟩) a1 rfl⟩
    rw [pk_cl q rfl (by omega), t2.2.2.2.2.2.2.2 q hq]
    refine nh_loop (α := nh_S) (fun h υ => nh_E kX1_moveTwo 22 [some (.ref 83), some (.int (nI q)), some (.int (nI (sKp T q))), some (.int (nI h))] [] υ Q) (fun h υ => frC [17, 18, 19, 20, 83, 84, 85, 86] σ υ ∧ (∃ g, g < sH T ∧ MV υ (sUp T 9 q 0 g) f t) ∧ g2 T f t q h = none) (sH T) ?_ ?_ (sH T) 0 τ (by omega) ⟨t1, ⟨sKp T q, hkq, by rw [sUp_kp]; exact t2⟩, rfl⟩
    · rintro υ ⟨u1, ⟨g, hg, u2⟩, u3⟩
      have a0 : υ.1 (υ.2.2 83 6) 0 = nI (sH T) := by rw [u2.2.1]; exact u2.2.2.1.1
      refine sg_X1_moveTwo_22 _ _ _ ⟨by rw [u2.2.1]; exact u2.1, pk_le (sH T) (sH T) (fun _ => ⟨pk_in q 12 (by omega), ?_⟩) (fun c => by omega) a0 rfl⟩
      rw [pk_cl q rfl (by omega), nI_1]
      have hb := MV_kp (h := sKp T q) u2 (WF_kp hW hg) (p := q) hq
      rw [sUp_back] at hb
      refine ih _ ⟨u1.wa _ _ (by decide), hb, ?_⟩
      rw [m2, t3]
      dsimp only
      rw [u3]
      rfl
    · rintro h υ hh ⟨u1, ⟨g, hg, u2⟩, u3⟩ ih2
      have a0 : υ.1 (υ.2.2 83 6) 0 = nI (sH T) := by rw [u2.2.1]; exact u2.2.2.1.1
      refine sg_X1_moveTwo_22 _ _ _ ⟨by rw [u2.2.1]; exact u2.1, pk_le (sH T) h (fun c => by omega) (fun c => ⟨pk_in q 12 (by omega), ?_⟩) a0 rfl⟩
      rw [pk_cl q rfl (by omega), nI_1, nI_1]
      have hb := MV_kp (h := h) u2 (WF_kp hW hg) (p := q) hq
      rw [sUp_two] at hb
      have hfr : frC [17, 18, 19, 20, 83, 84, 85, 86] σ (nh_wa υ 86 q (nI h)) := u1.wa _ _ (by decide)
      have step : g2 T f t q (h + 1) = if h ≠ sKp T q ∧ (m1 (sUp T 9 q 0 h) f t (q + 1) (sP T)).isSome = true then some h else none := by rw [g2, u3]
      refine pk_eq h (sKp T q) (fun c5 => ?_) (fun c5 => ?_)
      · refine ih2 _ ⟨hfr, ⟨h, hh, hb⟩, ?_⟩
        rw [step, if_neg (fun z => z.1 c5)]
      · refine c_moveOne hb (WF_kp hW hh) ht (i := 1) (lo := q + 1) (by omega) (show q + 1 ≤ sP T by omega) (fun ρ r1 r2 r3 => ⟨_, rfl, ?_⟩)
        have r2 : m1 (sUp T 9 q 0 h) f t (q + 1) (sP T) = none → MV ρ (sUp T 9 q 0 h) f t := r2
        have r3 : ∀ x, m1 (sUp T 9 q 0 h) f t (q + 1) (sP T) = some x → ρ.2.1 84 1 = nI x.1 ∧ ρ.2.1 85 1 = nI x.2 := r3
        show ((if (m1 (sUp T 9 q 0 h) f t (q + 1) (sP T)).isSome = true then 1 else 0 : Int32) = 0 → _) ∧ (¬ (if (m1 (sUp T 9 q 0 h) f t (q + 1) (sP T)).isSome = true then 1 else 0 : Int32) = 0 → _)
        refine ⟨fun c6 => ?_, fun c6 => ?_⟩
        · have z := b01.mp c6
          refine ih2 ρ ⟨hfr.tr r1, ⟨h, hh, r2 (by cases y : m1 (sUp T 9 q 0 h) f t (q + 1) (sP T) with | none => rfl | some v => rw [y] at z; cases z)⟩, ?_⟩
          rw [step, if_neg (fun y => by rw [z] at y; exact absurd y.2 (by decide))]
        · have hhl : (m1 (sUp T 9 q 0 h) f t (q + 1) (sP T)).isSome = true := by
            cases z : (m1 (sUp T 9 q 0 h) f t (q + 1) (sP T)).isSome with
            | true => rfl
            | false => exact absurd (b01.mpr z) c6
          have em : g2 T f t q (sH T) = some h := by
            have := g2_up (sH T - (h + 1)) (show g2 T f t q (h + 1) = some h by rw [step, if_pos ⟨c5, hhl⟩])
            rw [show h + 1 + (sH T - (h + 1)) = sH T by omega] at this
            exact this
          have e2 : m2 T f t (sP T) = some (q, h) := by
            have e1 : m2 T f t (q + 1) = some (q, h) := by
              rw [m2, t3]
              dsimp only
              rw [em]
              rfl
            have := m2_up (sP T - (q + 1)) e1
            rw [show q + 1 + (sP T - (q + 1)) = sP T by omega] at this
            exact this
          refine c_hold (i := 0) (by omega) _ _ ⟨rfl, ?_⟩
          have hq2 := hQ (nh_wa (nh_wa ρ 84 0 (nI q)) 85 0 (nI h)) (((hfr.tr r1).wa _ _ (by decide)).wa _ _ (by decide)) (fun x hx => by
            rw [e2] at hx
            cases hx
            refine ⟨?_, ?_, fun y hy => ?_⟩
            · rw [wa_ne _ _ _ (by decide), bs_get, if_pos ⟨rfl, rfl⟩]
            · rw [bs_get, if_pos ⟨rfl, rfl⟩]
            · obtain ⟨y1, y2⟩ := r3 y hy
              refine ⟨?_, ?_⟩
              · rw [wa_ne _ _ _ (by decide), bs_get, if_neg (by omega)]; exact y1
              · rw [bs_get, if_neg (by omega), wa_ne _ _ _ (by decide)]; exact y2)
          rw [e2] at hq2
          exact hq2
