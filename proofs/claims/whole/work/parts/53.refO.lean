/-! THE REFERENCE: clauses of a parish -/
def scr (k i : Nat) : Prop := k = 4 ∨ k = 5 ∨ (k = 3 ∧ 54 ≤ i) ∨ ((k = 6 ∨ k = 7 ∨ k = 8) ∧ 12 ≤ i) ∨ (k = 9 ∧ 2 ≤ i) ∨ ((k = 10 ∨ k = 11) ∧ 20 ≤ i)
/-- no FAULT as yet -/
def snd (σ : nh_S) : Prop := σ.1 0 20 = 0 ∧ σ.1 0 21 = -1
theorem snd.fr {js : List Nat} {σ τ : nh_S} (h : snd σ) (g : frI js σ τ) (h1 : 20 ∉ js) (h2 : 21 ∉ js) : snd τ := ⟨by rw [g.2 20 h1]; exact h.1, by rw [g.2 21 h2]; exact h.2⟩
theorem snd.wa {σ : nh_S} (h : snd σ) (k i : Nat) (x : Int32) : snd (nh_wa σ k i x) := h
theorem snd.si {σ : nh_S} (h : snd σ) {j : Nat} (x : Int32) (h1 : j ≠ 20) (h2 : j ≠ 21) : snd (nh_si σ 0 j x) := ⟨by rw [si_ne σ 0 j x h1.symm]; exact h.1, by rw [si_ne σ 0 j x h2.symm]; exact h.2⟩
def frT (σ τ : nh_S) : Prop := (∀ k i, ¬ scr k i → τ.2.1 k i = σ.2.1 k i) ∧ ∀ j, j ∉ [12, 17, 18, 19, 20, 21] → τ.1 0 j = σ.1 0 j
theorem frT.rf (σ : nh_S) : frT σ σ := ⟨fun _ _ _ => rfl, fun _ _ => rfl⟩
theorem frT.tr {σ τ υ : nh_S} (h : frT σ τ) (g : frT τ υ) : frT σ υ := ⟨fun k i hk => (g.1 k i hk).trans (h.1 k i hk), fun j hj => (g.2 j hj).trans (h.2 j hj)⟩
theorem frT.si {σ τ : nh_S} (h : frT σ τ) {j : Nat} (x : Int32) (hj : j ∈ [12, 17, 18, 19, 20, 21]) : frT σ (nh_si τ 0 j x) := ⟨h.1, fun i hi => by rw [si_ne τ 0 j x (fun e => hi (by rw [e]; exact hj))]; exact h.2 i hi⟩
theorem frT.wa {σ τ : nh_S} (h : frT σ τ) {k i : Nat} (x : Int32) (hs : scr k i) : frT σ (nh_wa τ k i x) := ⟨fun k' i' hk => by rw [bs_get, if_neg (fun e => hk (by rw [e.1, e.2]; exact hs))]; exact h.1 k' i' hk, h.2⟩
theorem frI.T {js : List Nat} {σ τ : nh_S} (h : frI js σ τ) (hs : ∀ j ∈ js, j ∈ [12, 17, 18, 19, 20, 21]) : frT σ τ := ⟨fun k i _ => by rw [h.1], fun j hj => h.2 j (fun q => hj (hs j q))⟩
theorem rt.T {σ τ : nh_S} {T : Nat → Nat} {n : Nat} (h : rt σ T n) (g : frT σ τ) : rt τ T n := ⟨by rw [g.2 16 (by decide)]; exact h.1, h.2.1, fun i hi => by rw [g.1 13 i (by unfold scr; omega)]; exact h.2.2 i hi⟩
theorem rt.wa {σ : nh_S} {T : Nat → Nat} {n : Nat} (h : rt σ T n) {k i : Nat} (x : Int32) (hs : scr k i) : rt (nh_wa σ k i x) T n := h.T ((frT.rf σ).wa x hs)
theorem bdy.wa {σ : nh_S} {z : Nat × Nat} (h : bdy σ z) (k i : Nat) (x : Int32) : bdy (nh_wa σ k i x) z := h
/-- the scratch of the reference and what was read so far -/
def RQ (σ : nh_S) (P : SP) : Prop := σ.2.1 9 2 = nI (sH P) ∧ σ.2.1 9 3 = nI (sP P) ∧ (∀ h, h < sH P → σ.2.1 3 (54 + 6 * h) = nI (sWk P h) ∧ σ.2.1 3 (54 + 6 * h + 1) = nI (sKy P h) ∧ ∀ q, q < 4 → σ.2.1 3 (54 + 6 * h + 2 + q) = nI (sOd P q h)) ∧ (∀ p, p < sP P → σ.2.1 5 (12 + p) = nI (sKp P p) ∧ σ.2.1 6 (12 + p) = nI (sMi P p) ∧ σ.2.1 7 (12 + p) = nI (sGa P p) ∧ σ.2.1 8 (12 + p) = nI (sBe P p)) ∧ ∀ a b, a < 9 → b < 9 → σ.2.1 4 (81 + 9 * a + b) = nI (sWy P a b)
theorem RQ.fr {σ τ : nh_S} {P : SP} (h : RQ σ P) (g : τ.2.1 = σ.2.1) : RQ τ P := by unfold RQ; rw [g]; exact h
def WQ (P : SP) : Prop := sH P ≤ 9 ∧ sP P ≤ 12 ∧ (∀ h, h < sH P → sWk P h ≤ 60 ∧ sKy P h ≤ 60 ∧ ∀ q, q < 4 → sOd P q h ≤ 100) ∧ (∀ p, p < sP P → sKp P p < sH P ∧ sMi P p ≤ 60 ∧ sGa P p ≤ 99 ∧ sBe P p < 2 ^ p) ∧ ∀ a b, sWy P a b ≤ 99 ∧ (sWy P a b ≠ 0 → a < sH P ∧ b < sH P ∧ a ≠ b)
/-- the bounds of a HOUSE's NUMBERS -/
def hb (k : Nat) : Nat := if k < 2 then 61 else 101
def hbl : Nat → Nat → List Nat
  | 0, _ => []
  | d + 1, k => hb k :: hbl d (k + 1)
theorem r_house_f {h : Nat} (hh : h < 9) {z : Nat × Nat} {Q : Option Value → nh_S → Prop} : ∀ (d k : Nat) (σ : nh_S), k + d = 6 → bdy σ z → (∀ τ, frT σ τ → bdy τ z → Q none τ) → nh_E kX9_takeHouse 29 [some (.ref 0), none, some (.int (nI h)), some (.int (nI k))] [] σ Q
  | 0, k, σ, hk, hb, hQ => by
    have e : k = 6 := by omega
    subst e
    exact sg_X9_takeHouse_29 _ _ (pk_le 6 6 (fun _ => hQ _ ((frT.rf σ).wa _ (by unfold scr; omega)) hb) (fun c => by omega))
  | d + 1, k, σ, hk, hb, hQ => by
    refine sg_X9_takeHouse_29 _ _ (pk_le 6 k (fun c => by omega) (fun c => ?_))
    refine r_takeNumber_f hb ⟨_, rfl, ?_⟩
    have e : (54 : Int32) + 6 * nI h + nI k = nI (54 + 6 * h + k) := by rw [show (54 : Int32) = nI 54 from rfl, show (6 : Int32) = nI 6 from rfl, pk_mul, nI_add, nI_add]
    rw [e, nI_1, pk_cl (54 + 6 * h + k) rfl (by omega)]
    refine ⟨pk_in (54 + 6 * h + k) 108 (by omega), ?_⟩
    have hf := (frT.rf σ).wa (k := 3) (i := 54 + 6 * h + k) 0 (by unfold scr; omega)
    exact r_house_f hh d (k + 1) _ (by omega) (hb.wa _ _ _) (fun τ t1 t2 => hQ τ (hf.tr t1) t2)
theorem r_house_6 {T : Nat → Nat} {n h : Nat} (hh : h < 9) {Q : Option Value → nh_S → Prop} : ∀ (d k a : Nat) (σ : nh_S), k + d = 6 → rt σ T n → σ.1 0 17 = nI a → a ≤ n → snd σ →
    (∀ z, tkL T n (hbl d k) a = .error z → ∀ τ, frT σ τ → bdy τ z → Q none τ) →
    (∀ vs e, tkL T n (hbl d k) a = .ok (vs, e) → ∀ τ, frT σ τ → τ.1 0 17 = nI e → snd τ → (∀ i, i < d → τ.2.1 3 (54 + 6 * h + (k + i)) = nI (vs.getD i 0)) → (∀ j, j < 54 + 6 * h + k ∨ 54 + 6 * h + 6 ≤ j → τ.2.1 3 j = σ.2.1 3 j) → (∀ k' i', k' ≠ 3 → (k' ≠ 9 ∨ i' ≠ 2) → τ.2.1 k' i' = σ.2.1 k' i') → τ.2.1 9 2 = nI (h + 1) → Q none τ) →
    nh_E kX9_takeHouse 29 [some (.ref 0), none, some (.int (nI h)), some (.int (nI k))] [] σ Q
  | 0, k, a, σ, hk, ht, h17, ha, h20, hQb, hQo => by
    have e : k = 6 := by omega
    subst e
    refine sg_X9_takeHouse_29 _ _ (pk_le 6 6 (fun _ => ?_) (fun c => by omega))
    rw [nI_1]
    refine hQo [] a rfl _ ((frT.rf σ).wa _ (by unfold scr; omega)) h17 h20 (fun i hi => by omega) (fun j _ => by rw [bs_get, if_neg (by omega)]) (fun k' i' h1 h2 => by rw [bs_get, if_neg (by omega)]) (by rw [bs_get, if_pos ⟨rfl, rfl⟩])
  | d + 1, k, a, σ, hk, ht, h17, ha, h20, hQb, hQo => by
    rw [hbl, tkL] at hQb hQo
    refine sg_X9_takeHouse_29 _ _ (pk_le 6 k (fun c => by omega) (fun c => ?_))
    have e : (54 : Int32) + 6 * nI h + nI k = nI (54 + 6 * h + k) := by rw [show (54 : Int32) = nI 54 from rfl, show (6 : Int32) = nI 6 from rfl, pk_mul, nI_add, nI_add]
    have hx : (if 2 ≤ nI k then (100 : Int32) else 60) = nI (hb k) - 1 := by
      unfold hb
      by_cases c2 : k < 2
      · rw [if_pos c2, if_neg (by rw [show (2 : Int32) = nI 2 from rfl, nI_leI (by omega) (by omega)]; omega)]; rfl
      · rw [if_neg c2, if_pos (by rw [show (2 : Int32) = nI 2 from rfl, nI_leI (by omega) (by omega)]; omega)]; rfl
    have hhb : hb k ≤ 1000 := by unfold hb; split <;> omega
    have hsc : scr 3 (54 + 6 * h + k) := by unfold scr; omega
    refine r_takeNumber (lo := 0) (hi := hb k) ht h17 ha h20.1 (by omega) hhb hx (fun z hz τ r t1 t2 => ⟨_, rfl, ?_⟩) (fun v e1 hv τ t1 t2 t3 => ⟨_, rfl, ?_⟩)
    · rw [e, nI_1, pk_cl (54 + 6 * h + k) rfl (by omega)]
      refine ⟨pk_in (54 + 6 * h + k) 108 (by omega), ?_⟩
      rw [hz] at hQb
      have hf : frT σ (nh_wa τ 3 (54 + 6 * h + k) r) := (t1.T (by decide)).wa _ hsc
      exact r_house_f hh d (k + 1) _ (by omega) (t2.wa _ _ _) (fun υ u1 u2 => hQb z rfl υ (hf.tr u1) u2)
    · rw [e, nI_1, pk_cl (54 + 6 * h + k) rfl (by omega)]
      refine ⟨pk_in (54 + 6 * h + k) 108 (by omega), ?_⟩
      have hfi := tkN_fine (T := T) (n := n) (lo := 0) (hi := hb k) (a := a) ha
      rw [hv] at hQb hQo hfi
      rw [rb_ok] at hQb hQo
      have hf : frT σ (nh_wa τ 3 (54 + 6 * h + k) (nI v.1)) := (t1.T (by decide)).wa _ hsc
      refine r_house_6 hh d (k + 1) e1 _ (by omega) (ht.T hf) t2 hfi.2 ((h20.fr t1 (by decide) (by decide)).wa _ _ _) (fun z hz υ u1 u2 => ?_) (fun vs e2 hvs υ u1 u2 u3 u4 u5 u6 u7 => ?_)
      · rw [hz] at hQb
        exact hQb z rfl υ (hf.tr u1) u2
      · rw [hvs] at hQo
        refine hQo _ _ rfl υ (hf.tr u1) u2 u3 (fun i hi => ?_) (fun j hj => ?_) (fun k' i' g1 g2 => ?_) u7
        · cases i with
          | zero =>
            rw [Nat.add_zero, u5 _ (by omega), bs_get, if_pos ⟨rfl, rfl⟩]
            rfl
          | succ i =>
            have := u4 i (by omega)
            rw [show k + 1 + i = k + (i + 1) by omega] at this
            exact this
        · rw [u5 j (by omega), bs_get, if_neg (by omega), t1.1]
        · rw [u6 k' i' g1 g2, bs_get, if_neg (by omega), t1.1]
theorem nHouse_RQ {σ τ : nh_S} {P : SP} {vs : List Nat} (hR : RQ σ P) (hW : WQ P) (u4 : ∀ i, i < 6 → τ.2.1 3 (54 + 6 * sH P + (0 + i)) = nI (vs.getD i 0)) (u5 : ∀ j, j < 54 + 6 * sH P + 0 ∨ 54 + 6 * sH P + 6 ≤ j → τ.2.1 3 j = σ.2.1 3 j) (u6 : ∀ k' i', k' ≠ 3 → (k' ≠ 9 ∨ i' ≠ 2) → τ.2.1 k' i' = σ.2.1 k' i') (u7 : τ.2.1 9 2 = nI (sH P + 1)) : RQ τ (nHouse P vs) := by
  obtain ⟨r1, r2, r3, r4, r5⟩ := hR
  have eH : sH (nHouse P vs) = sH P + 1 := by simp [sH, nHouse]
  have eP : sP (nHouse P vs) = sP P := by simp [sP, nHouse]
  refine ⟨by rw [eH]; exact u7, by rw [eP, u6 9 3 (by omega) (by omega)]; exact r2, fun h hh => ?_, fun p hp => ?_, fun a b ha hb => ?_⟩
  · rw [eH] at hh
    rcases (show h < sH P ∨ h = sH P by omega) with q | rfl
    · have hne : ¬ h = sH P := by omega
      have e1 : sWk (nHouse P vs) h = sWk P h := by simp [sWk, nHouse, show ¬ h = P 0 0 0 from hne]
      have e2 : sKy (nHouse P vs) h = sKy P h := by simp [sKy, nHouse, show ¬ h = P 0 0 0 from hne]
      obtain ⟨a1, a2, a3⟩ := r3 h q
      refine ⟨by rw [e1, u5 _ (by omega)]; exact a1, by rw [e2, u5 _ (by omega)]; exact a2, fun q4 hq4 => ?_⟩
      have e3 : sOd (nHouse P vs) q4 h = sOd P q4 h := by simp [sOd, nHouse, show ¬ h = P 0 0 0 from hne]
      rw [e3, u5 _ (by omega)]
      exact a3 q4 hq4
    · have e1 : sWk (nHouse P vs) (sH P) = vs.getD 0 0 := by simp [sWk, sH, nHouse]
      have e2 : sKy (nHouse P vs) (sH P) = vs.getD 1 0 := by simp [sKy, sH, nHouse]
      have a0 := u4 0 (by omega)
      have a1 := u4 1 (by omega)
      refine ⟨by rw [e1]; exact a0, by rw [e2]; exact a1, fun q hq => ?_⟩
      have e3 : sOd (nHouse P vs) q (sH P) = vs.getD (2 + q) 0 := by simp [sOd, sH, nHouse, hq]
      have a2 := u4 (2 + q) (by omega)
      rw [show 54 + 6 * sH P + (0 + (2 + q)) = 54 + 6 * sH P + 2 + q by omega] at a2
      rw [e3]
      exact a2
  · rw [eP] at hp
    have e1 : sKp (nHouse P vs) p = sKp P p := by simp [sKp, nHouse]
    have e2 : sMi (nHouse P vs) p = sMi P p := by simp [sMi, nHouse]
    have e3 : sGa (nHouse P vs) p = sGa P p := by simp [sGa, nHouse]
    have e4 : sBe (nHouse P vs) p = sBe P p := by simp [sBe, nHouse]
    rw [e1, e2, e3, e4, u6 5 _ (by omega) (by omega), u6 6 _ (by omega) (by omega), u6 7 _ (by omega) (by omega), u6 8 _ (by omega) (by omega)]
    exact r4 p hp
  · have e1 : sWy (nHouse P vs) a b = sWy P a b := by simp [sWy, nHouse]
    rw [e1, u6 4 _ (by omega) (by omega)]
    exact r5 a b ha hb
theorem r_takeHouse {σ : nh_S} {T : Nat → Nat} {n a s : Nat} {P : SP} (ht : rt σ T n) (h17 : σ.1 0 17 = nI a) (ha : a ≤ n) (h20 : snd σ) (hR : RQ σ P) (hW : WQ P) {Q : Option Value → nh_S → Prop}
    (hQ3 : 9 ≤ sH P → ∀ τ, frT σ τ → bdy τ (3, s) → Q none τ)
    (hQb : ¬ 9 ≤ sH P → ∀ z, tkL T n [61, 61, 101, 101, 101, 101] a = .error z → ∀ τ, frT σ τ → bdy τ z → Q none τ)
    (hQo : ¬ 9 ≤ sH P → ∀ vs e, tkL T n [61, 61, 101, 101, 101, 101] a = .ok (vs, e) → ∀ τ, frT σ τ → τ.1 0 17 = nI e → snd τ → RQ τ (nHouse P vs) → Q none τ) :
    nh_E kX9_takeHouse 0 [some (.ref 0), some (.int (nI s)), none, none] [] σ Q := by
  have h9 := hW.1
  refine sg_X9_takeHouse_0 _ ?_
  rw [hR.1]
  have hc : ¬ (9 : Int32) ≤ nI (sH P) ↔ ¬ 9 ≤ sH P := by rw [show (9 : Int32) = nI 9 from rfl, nI_leI (by omega) (by omega)]
  refine r_want h20.1 (by decide) (fun g => ⟨_, rfl, fun q => absurd q (by decide), fun _ => ?_⟩) (fun g => ⟨_, rfl, fun _ => ?_, fun q => absurd rfl q⟩)
  · have h := hc.mp g
    refine r_house_6 (by omega) 6 0 a σ rfl ht h17 ha h20 (hQb h) (fun vs e hv τ t1 t2 t3 t4 t5 t6 t7 => ?_)
    exact hQo h vs e hv τ t1 t2 t3 (nHouse_RQ hR hW t4 t5 t6 t7)
  · have h : 9 ≤ sH P := Classical.byContradiction (fun q => g (hc.mpr q))
    exact hQ3 h _ (((frT.rf σ).si _ (by decide)).si _ (by decide)) (bdy.mk' (c := 3) (by omega) (by omega))
theorem nWay_at (P : SP) (x y m a b : Nat) : sWy (nWay P x y m) a b = if (a = y ∧ b = x) ∨ (a = x ∧ b = y) then m else sWy P a b := by
  unfold nWay sWy
  rw [sUp_at, sUp_at]
  by_cases c1 : a = y ∧ b = x
  · rw [if_pos c1, if_pos (Or.inl c1)]
  · rw [if_neg c1]
    by_cases c2 : a = x ∧ b = y
    · rw [if_pos c2, if_pos (Or.inr c2)]
    · rw [if_neg c2, if_neg (fun q => by rcases q with q | q; exact c1 q; exact c2 q)]
theorem nWay_ne (P : SP) (x y m : Nat) {t : Nat} (h : t ≠ 27) : nWay P x y m t = P t := by unfold nWay; rw [sUp_ne _ h, sUp_ne _ h]
theorem r_takeWay {σ : nh_S} {T : Nat → Nat} {n a : Nat} {P : SP} (ht : rt σ T n) (h17 : σ.1 0 17 = nI a) (ha : a ≤ n) (h20 : snd σ) (hR : RQ σ P) (hW : WQ P) {Q : Option Value → nh_S → Prop}
    (hQ : ∀ (w : Rs SP), w = rb (tkN T n 0 (sH P) a) (fun x e => rb (tkN T n 0 (sH P) e) (fun y e2 => if x.1 = y.1 ∨ sWy P x.1 y.1 ≠ 0 then .error (4, y.2) else rb (tkN T n 1 100 e2) (fun m e3 => .ok (nWay P x.1 y.1 m.1, e3)))) → ∀ τ, frT σ τ → (match w with | .error z => bdy τ z | .ok y => τ.1 0 17 = nI y.2 ∧ snd τ ∧ RQ τ y.1) → Q none τ) :
    nh_E kX9_takeWay 0 [some (.ref 0), none, none, none] [] σ Q := by
  have h9 := hW.1
  refine sg_X9_takeWay_0 ?_
  rw [hR.1]
  refine r_takeNumber (lo := 0) (hi := sH P) ht h17 ha h20.1 (by omega) (by omega) rfl (fun z hz τ r t1 t2 => ⟨_, rfl, ?_⟩) (fun x e1 hv τ t1 t2 t3 => ⟨_, rfl, ?_⟩)
  · refine r_takeNumber_f t2 ⟨_, rfl, fun _ => ?_, fun q => absurd q t2.ne⟩
    exact hQ _ rfl τ (t1.T (by decide)) (by rw [hz, rb_bad]; exact t2)
  · rw [hv, rb_ok] at hQ
    have he1 := (show fine n a (tkN T n 0 (sH P) a) from tkN_fine ha)
    rw [hv] at he1
    have hx := tkN_ok hv
    have f1 : frT σ τ := t1.T (by decide)
    have R1 : RQ τ P := hR.fr (by rw [t1.1])
    rw [R1.1]
    refine r_takeNumber (lo := 0) (hi := sH P) (ht.T f1) t2 he1.2 (h20.fr t1 (by decide) (by decide)).1 (by omega) (by omega) rfl (fun z hz υ r u1 u2 => ⟨_, rfl, fun _ => ?_, fun q => absurd q u2.ne⟩) (fun y e2 hy υ u1 u2 u3 => ⟨_, rfl, fun q => ?_, fun _ => ?_⟩)
    · exact hQ _ rfl υ (f1.tr (u1.T (by decide))) (by rw [hz, rb_bad]; exact u2)
    · exact absurd ((h20.fr t1 (by decide) (by decide)).fr u1 (by decide) (by decide)).1 q
    · rw [hy, rb_ok] at hQ
      have he2 := (show fine n e1 (tkN T n 0 (sH P) e1) from tkN_fine he1.2)
      rw [hy] at he2
      have hyk := tkN_ok hy
      have f2 : frT σ υ := f1.tr (u1.T (by decide))
      have R2 : RQ υ P := R1.fr (by rw [u1.1])
      have h20u : snd υ := (h20.fr t1 (by decide) (by decide)).fr u1 (by decide) (by decide)
      have ea : (81 : Int32) + 9 * nI x.1 + nI y.1 = nI (81 + 9 * x.1 + y.1) := by rw [show (81 : Int32) = nI 81 from rfl, show (9 : Int32) = nI 9 from rfl, pk_mul, nI_add, nI_add]
      have eb : (81 : Int32) + 9 * nI y.1 + nI x.1 = nI (81 + 9 * y.1 + x.1) := by rw [show (81 : Int32) = nI 81 from rfl, show (9 : Int32) = nI 9 from rfl, pk_mul, nI_add, nI_add]
      rw [ea, eb, pk_cl (81 + 9 * x.1 + y.1) rfl (by omega), pk_cl (81 + 9 * y.1 + x.1) rfl (by omega), R2.2.2.2.2 x.1 y.1 (by omega) (by omega), u3]
      refine ⟨fun _ => pk_in (81 + 9 * x.1 + y.1) 162 (by omega), ?_⟩
      have hwy := (hW.2.2.2.2 x.1 y.1).1
      have hc : (¬ nI x.1 = nI y.1 ∧ nI (sWy P x.1 y.1) = 0) ↔ ¬ (x.1 = y.1 ∨ sWy P x.1 y.1 ≠ 0) := by
        rw [nI_eq (by omega) (by omega), show (0 : Int32) = nI 0 from rfl, nI_eq (by omega) (by omega)]
        omega
      refine r_want h20u.1 (by decide) (fun g => ⟨_, rfl, fun q => absurd q (by decide), fun _ => ?_⟩) (fun g => ⟨_, rfl, fun _ => ?_, fun q => absurd rfl q⟩)
      · rw [if_neg (hc.mp g)] at hQ
        refine r_takeNumber (lo := 1) (hi := 100) (ht.T f2) u2 he2.2 h20u.1 (by omega) (by omega) (by decide) (fun z hz ρ r r1 r2 => ⟨_, rfl, pk_in (81 + 9 * x.1 + y.1) 162 (by omega), pk_in (81 + 9 * y.1 + x.1) 162 (by omega), ?_⟩) (fun m e3 hm ρ r1 r2 r3 => ⟨_, rfl, pk_in (81 + 9 * x.1 + y.1) 162 (by omega), pk_in (81 + 9 * y.1 + x.1) 162 (by omega), ?_⟩)
        · refine hQ _ rfl _ (((f2.tr (r1.T (by decide))).wa _ (by unfold scr; omega)).wa _ (by unfold scr; omega)) ?_
          rw [hz, rb_bad]
          exact r2
        · refine hQ _ rfl _ (((f2.tr (r1.T (by decide))).wa _ (by unfold scr; omega)).wa _ (by unfold scr; omega)) ?_
          rw [hm, rb_ok]
          refine ⟨r2, ((h20u.fr r1 (by decide) (by decide)).wa _ _ _).wa _ _ _, ?_⟩
          have R3 : RQ ρ P := R2.fr (by rw [r1.1])
          obtain ⟨s1, s2, s3, s4, s5⟩ := R3
          have w : ∀ k, k ≠ 4 → (nh_wa (nh_wa ρ 4 (81 + 9 * x.1 + y.1) (nI m.1)) 4 (81 + 9 * y.1 + x.1) (nI m.1)).2.1 k = ρ.2.1 k := fun k hk => by rw [wa_ne _ _ _ hk, wa_ne _ _ _ hk]
          have g := fun t ht => nWay_ne P x.1 y.1 m.1 (t := t) ht
          dsimp only
          unfold RQ
          simp only [sH, sP, sWk, sKy, sOd, sKp, sMi, sGa, sBe]
          rw [g 0 (by omega), g 1 (by omega), g 2 (by omega), g 3 (by omega), g 4 (by omega), g 6 (by omega), g 7 (by omega), g 8 (by omega), g 9 (by omega), w 9 (by omega), w 3 (by omega), w 5 (by omega), w 6 (by omega), w 7 (by omega), w 8 (by omega)]
          refine ⟨s1, s2, s3, s4, fun a b ha hb => ?_⟩
          rw [bs_get, bs_get, nWay_at]
          by_cases c1 : a = y.1 ∧ b = x.1
          · rw [if_pos (by omega), if_pos (Or.inl c1)]
          · rw [if_neg (by omega)]
            by_cases c2 : a = x.1 ∧ b = y.1
            · rw [if_pos (by omega), if_pos (Or.inr c2)]
            · rw [if_neg (by omega), if_neg (by omega)]
              exact s5 a b ha hb
      · have h : x.1 = y.1 ∨ sWy P x.1 y.1 ≠ 0 := Classical.byContradiction (fun q => g (hc.mpr q))
        rw [if_pos h] at hQ
        exact hQ _ rfl _ ((f2.si _ (by decide)).si _ (by decide)) (bdy.mk' (c := 4) (by omega) (by omega))
theorem pop_full {B p : Nat} (hB : B < 2 ^ p) (hp : p ≤ 11) : pop B ≠ 12 := by
  intro h
  have h2 := (fb_ct_all (p := fun i => B.testBit i) (n := 12)).mp h 11 (by omega)
  have h3 : B.testBit 11 = false := Nat.testBit_lt_two_pow (Nat.lt_of_lt_of_le hB (pw_le hp))
  rw [h3] at h2
  cases h2
set_option maxHeartbeats 1000000 in
theorem r_part_on {T : Nat → Nat} {n p : Nat} (hp : p ≤ 11) {Q : Option Value → nh_S → Prop} : ∀ (f B a : Nat) (σ : nh_S), rt σ T n → σ.1 0 17 = nI a → a ≤ n → snd σ → B < 2 ^ p → pop B + f = 12 → σ.2.1 8 (12 + p) = nI B →
    (∀ w, w = tkQ T n p f B a → ∀ τ, frT σ τ → (match w with | .error z => bdy τ z | .ok y => τ.1 0 17 = nI y.2 ∧ snd τ ∧ y.1 < 2 ^ p ∧ τ.2.1 8 (12 + p) = nI y.1 ∧ ∀ k i, (k ≠ 8 ∨ i ≠ 12 + p) → (k ≠ 9 ∨ i ≠ 3) → τ.2.1 k i = σ.2.1 k i) → τ.2.1 9 3 = nI (p + 1) → Q none τ) →
    nh_E kX9_takePart 134 [some (.ref 0), none, some (.int (nI p)), some (.int 1), none] [] σ Q
  | 0, B, a, σ, ht, h17, ha, h20, hB, hpop, h8, hQ => by
    have h := pop_full hB hp
    omega
  | f + 1, B, a, σ, ht, h17, ha, h20, hB, hpop, h8, hQ => by
    have hpl : 2 ^ p ≤ 2 ^ 11 := pw_le hp
    rw [tkQ] at hQ
    have done : ∀ τ z, frT σ τ → bdy τ z → (∀ υ, frT σ υ → bdy υ z → υ.2.1 9 3 = nI (p + 1) → Q none υ) → nh_E kX9_takePart 134 [some (.ref 0), none, some (.int (nI p)), some (.int 0), none] [] τ Q := by
      intro τ z t1 t2 hq
      refine sg_X9_takePart_134 _ _ ⟨fun _ => ?_, fun q => absurd rfl q⟩
      rw [nI_1]
      exact hq _ (t1.wa _ (by unfold scr; omega)) t2 (by rw [bs_get, if_pos ⟨rfl, rfl⟩])
    have e12 : (12 : Int32) + nI p = nI (12 + p) := nI_add 12 p
    refine sg_X9_takePart_134 _ _ ⟨fun q => absurd q (by decide), fun _ => ?_⟩
    rw [e12]
    refine r_takeNumber (lo := 0) (hi := p) ht h17 ha h20.1 (by omega) (by omega) rfl (fun z hz τ r t1 t2 => ⟨_, rfl, fun _ => ?_, fun q => absurd q t2.ne⟩) (fun q e hq τ t1 t2 t3 => ⟨_, rfl, fun c => ?_, fun _ => ?_⟩)
    · refine done τ z (t1.T (by decide)) t2 (fun υ u1 u2 u3 => hQ _ rfl υ u1 ?_ u3)
      rw [hz, rb_bad]
      exact u2
    · exact absurd (h20.fr t1 (by decide) (by decide)).1 c
    · rw [hq, rb_ok] at hQ
      have he := (show fine n a (tkN T n 0 p a) from tkN_fine ha)
      rw [hq] at he
      have hqk := tkN_ok hq
      have f1 : frT σ τ := t1.T (by decide)
      have t20 : snd τ := h20.fr t1 (by decide) (by decide)
      have t8 : τ.2.1 8 (12 + p) = nI B := by rw [t1.1]; exact h8
      rw [pk_cl (12 + p) rfl (by omega), t8, t3]
      refine ⟨pk_in (12 + p) 24 (by omega), ?_⟩
      have hh : nh_hs (nI B) (nI q.1) ↔ B.testBit q.1 = true := bs_hs (by omega) (by omega)
      have hc : ¬ nh_hs (nI B) (nI q.1) ↔ ¬ B.testBit q.1 = true := by rw [hh]
      refine r_want t20.1 (by decide) (fun g => ⟨_, rfl, fun c => absurd (by decide) c, fun _ => ⟨pk_in (12 + p) 24 (by omega), ?_⟩⟩) (fun g => ⟨_, rfl, fun _ => ?_, fun c => absurd rfl c⟩)
      · have hbit := hc.mp g
        rw [if_neg hbit] at hQ
        rw [t8, bs_shl (by omega), fa_or]
        have hsc : scr 8 (12 + p) := by unfold scr; omega
        have f2 : frT σ (nh_wa τ 8 (12 + p) (nI (B ||| 2 ^ q.1))) := f1.wa _ hsc
        have hB2 : B ||| 2 ^ q.1 < 2 ^ p := Nat.or_lt_two_pow hB (Nat.pow_lt_pow_right (by omega) hqk.2.1)
        have hsk1 := sk_le (T := T) he.2
        refine r_here (n - e) e _ (ht.T f2) t2 (by have := he.2; omega) (fun υ u1 u2 => ⟨_, rfl, ?_⟩)
        dsimp only
        rw [u2]
        have hcm : ((if sk T n e < n then nI (T (sk T n e)) else -1) = (44 : Int32)) ↔ (sk T n e < n ∧ T (sk T n e) = 44) := by
          by_cases h : sk T n e < n
          · rw [if_pos h, show (44 : Int32) = nI 44 from rfl, nI_eq (by have := (ht.2.2 _ h).2; omega) (by omega)]
            exact ⟨fun q => ⟨h, q⟩, fun q => q.2⟩
          · rw [if_neg h]
            exact ⟨fun q => absurd q (by decide), fun q => absurd q.1 h⟩
        have f3 : frT σ υ := f2.tr (u1.T (by decide))
        have u8 : υ.2.1 8 (12 + p) = nI (B ||| 2 ^ q.1) := by rw [u1.1, bs_get, if_pos ⟨rfl, rfl⟩]
        have u20 : snd υ := snd.fr (σ := nh_wa τ 8 (12 + p) (nI (B ||| 2 ^ q.1))) t20 u1 (by decide) (by decide)
        have uo : ∀ k i, (k ≠ 8 ∨ i ≠ 12 + p) → υ.2.1 k i = σ.2.1 k i := fun k i hk => by rw [u1.1, bs_get, if_neg (by omega), t1.1]
        by_cases hcc : sk T n e < n ∧ T (sk T n e) = 44
        · rw [if_pos hcc] at hQ
          rw [if_pos (hcm.mpr hcc), nI_1]
          have hor : pop (B ||| 2 ^ q.1) = pop B + 1 := ct_or (H := 12) (by omega) (by simpa using hbit)
          refine r_part_on hp f _ (sk T n e + 1) _ ((ht.T f3).T ((frT.rf υ).si _ (by decide))) (by rw [bs_geti, if_pos ⟨rfl, rfl⟩]) (by omega) (u20.si _ (by decide) (by decide)) hB2 (by omega) u8 (fun w hw ρ r1 r2 r3 => hQ w hw ρ ((f3.si _ (by decide)).tr r1) ?_ r3)
          cases w with
          | error z => exact r2
          | ok y => exact ⟨r2.1, r2.2.1, r2.2.2.1, r2.2.2.2.1, fun k i h1 h2 => by rw [r2.2.2.2.2 k i h1 h2]; exact uo k i h1⟩
        · rw [if_neg hcc] at hQ
          rw [if_neg (fun z => hcc (hcm.mp z))]
          refine sg_X9_takePart_134 _ _ ⟨fun _ => ?_, fun z => absurd rfl z⟩
          rw [nI_1, show nI (sk T n e) + (0 : Int32) = nI (sk T n e) from nI_add _ 0]
          refine hQ _ rfl _ ((f3.si _ (by decide)).wa _ (by unfold scr; omega)) ⟨?_, ?_, hB2, ?_, fun k i h1 h2 => ?_⟩ (by rw [bs_get, if_pos ⟨rfl, rfl⟩])
          · rw [bs_wa1, bs_geti, if_pos ⟨rfl, rfl⟩]
          · exact (u20.si _ (by decide) (by decide)).wa _ _ _
          · rw [bs_get, if_neg (by omega)]; exact u8
          · rw [bs_get, if_neg (by omega)]; exact uo k i h1
      · have hbit : B.testBit q.1 = true := Classical.byContradiction (fun z => g (hc.mpr z))
        rw [if_pos hbit] at hQ
        exact done _ (4, q.2) ((f1.si _ (by decide)).si _ (by decide)) (bdy.mk' (c := 4) (by omega) (by omega)) (fun υ u1 u2 u3 => hQ _ rfl υ u1 u2 u3)
