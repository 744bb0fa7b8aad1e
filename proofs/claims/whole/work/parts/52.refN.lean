/-! THE REFERENCE: reading -/
/-- only these numbers have changed -/
def frI (js : List Nat) (σ τ : nh_S) : Prop := τ.2 = σ.2 ∧ ∀ j, j ∉ js → τ.1 0 j = σ.1 0 j
theorem frI.rf (js : List Nat) (σ : nh_S) : frI js σ σ := ⟨rfl, fun _ _ => rfl⟩
theorem frI.tr {js : List Nat} {σ τ υ : nh_S} (h : frI js σ τ) (g : frI js τ υ) : frI js σ υ := ⟨g.1.trans h.1, fun j hj => (g.2 j hj).trans (h.2 j hj)⟩
theorem frI.si {js : List Nat} {σ τ : nh_S} (h : frI js σ τ) {j : Nat} (x : Int32) (hj : j ∈ js) : frI js σ (nh_si τ 0 j x) := ⟨h.1, fun i hi => by rw [si_ne τ 0 j x (fun e => hi (by rw [e]; exact hj))]; exact h.2 i hi⟩
theorem frI.mono {js ks : List Nat} {σ τ : nh_S} (h : frI js σ τ) (hs : ∀ j ∈ js, j ∈ ks) : frI ks σ τ := ⟨h.1, fun j hj => h.2 j (fun q => hj (hs j q))⟩
/-- THE TEXT -/
def rt (σ : nh_S) (T : Nat → Nat) (n : Nat) : Prop := σ.1 0 16 = nI n ∧ n ≤ 600 ∧ ∀ i, i < n → σ.2.1 13 i = nI (T i) ∧ T i < 256
theorem rt.fr {js : List Nat} {σ τ : nh_S} {T : Nat → Nat} {n : Nat} (h : rt σ T n) (g : frI js σ τ) (hj : 16 ∉ js) : rt τ T n := ⟨by rw [g.2 16 hj]; exact h.1, h.2.1, fun i hi => by rw [g.1]; exact h.2.2 i hi⟩
theorem r_here {T : Nat → Nat} {n : Nat} {Q : Option Value → nh_S → Prop} : ∀ (d a : Nat) (σ : nh_S), rt σ T n → σ.1 0 17 = nI a → a + d = n → (∀ τ, frI [17] σ τ → τ.1 0 17 = nI (sk T n a) → Q (some (.int (if sk T n a < n then nI (T (sk T n a)) else -1))) τ) → nh_E kX9_here 0 [some (.ref 0)] [] σ Q
  | 0, a, σ, ht, h17, hd, hQ => by
    have hn := ht.2.1
    have h := hQ σ (frI.rf _ _)
    have e : sk T n a = a := rx_at (fun q => by omega)
    rw [e, if_neg (by omega)] at h
    refine sg_X9_here_0 ?_
    rw [ht.1, h17]
    refine pk_le n a (fun c => ⟨fun q => absurd (nI_le (by omega) (by have := ht.2.1; omega)) q, ?_⟩) (fun c => by omega)
    rw [if_pos (nI_le c (by have := ht.2.1; omega))]
    exact h h17
  | d + 1, a, σ, ht, h17, hd, hQ => by
    have hn := ht.2.1
    obtain ⟨h13, hlt⟩ := ht.2.2 a (by omega)
    have hse : sk T n a = if a < n ∧ (T a == 32) = true then sk T n (a + 1) else a := rx_eq _ _ _
    refine sg_X9_here_0 ?_
    rw [ht.1, h17, pk_cl a rfl (by omega), h13, nI_1]
    refine pk_le n a (fun c => by omega) (fun c => ⟨pk_in a 600 (by omega), fun c2 => ?_, fun c2 => ?_⟩)
    · have hne : ¬ T a = 32 := fun q => c2 (by rw [q]; rfl)
      have e : sk T n a = a := by rw [hse, if_neg (by simp [hne])]
      have h := hQ σ (frI.rf _ _)
      rw [e, if_pos c] at h
      rw [if_neg (nI_ge c (by omega))]
      exact h h17
    · have heq : T a = 32 := (nI_eq (by omega) (by decide)).mp c2
      have e : sk T n a = sk T n (a + 1) := by rw [hse, if_pos ⟨c, by simp [heq]⟩]
      have hf : frI [17] σ (nh_si σ 0 17 (nI (a + 1))) := (frI.rf _ _).si _ (by decide)
      refine r_here d (a + 1) _ (ht.fr hf (by decide)) (by rw [bs_geti, if_pos ⟨rfl, rfl⟩]) (by omega) (fun τ t1 t2 => ?_)
      rw [e] at hQ
      exact hQ τ (hf.tr t1) t2
theorem r_want {σ : nh_S} (h20 : σ.1 0 20 = 0) {c : Prop} [Decidable c] {k p : Int32} (hk : k ≠ 0) {Q : Option Value → nh_S → Prop} (h1 : c → Q (some (.int 1)) σ) (h2 : ¬ c → Q (some (.int 0)) (nh_si (nh_si σ 0 20 k) 0 21 p)) : nh_E kX9_want 0 [some (.ref 0), some (.int (if c then 1 else 0)), some (.int k), some (.int p)] [] σ Q := by
  refine sg_X9_want_0 _ _ _ ?_
  by_cases hc : c
  · rw [if_pos hc]
    refine ⟨fun _ => ?_, fun q => absurd q (by decide)⟩
    rw [if_pos h20]
    exact h1 hc
  · rw [if_neg hc]
    refine ⟨fun q => absurd rfl q, fun _ => ⟨fun q => absurd h20 q, fun _ => ?_⟩⟩
    rw [if_neg hk]
    exact h2 hc
theorem r_want_f {σ : nh_S} (h20 : σ.1 0 20 ≠ 0) {x k p : Int32} {Q : Option Value → nh_S → Prop} (h : Q (some (.int 0)) σ) : nh_E kX9_want 0 [some (.ref 0), some (.int x), some (.int k), some (.int p)] [] σ Q := by
  refine sg_X9_want_0 _ _ _ ⟨fun _ => ?_, fun _ => ⟨fun _ => ?_, fun q => absurd q h20⟩⟩
  · rw [if_neg h20]; exact h
  · rw [if_neg h20]; exact h
/-- the state behind a FAULT -/
def bdy (σ : nh_S) (z : Nat × Nat) : Prop := σ.1 0 20 = nI z.1 ∧ σ.1 0 21 = nI z.2 ∧ 1 ≤ z.1 ∧ z.1 ≤ 4
theorem bdy.ne {σ : nh_S} {z : Nat × Nat} (h : bdy σ z) : σ.1 0 20 ≠ 0 := by rw [h.1]; exact nI_ne0 (by have := h.2.2.1; omega) (by have := h.2.2.2; omega)
theorem bdy.gt {σ : nh_S} {z : Nat × Nat} (h : bdy σ z) : ¬ σ.1 0 20 ≤ 0 := by rw [h.1]; exact nI_nle (by have := h.2.2.1; omega) (by have := h.2.2.2; omega)
theorem bdy.fr {σ τ : nh_S} {z : Nat × Nat} (h : bdy σ z) (g1 : τ.1 0 20 = σ.1 0 20) (g2 : τ.1 0 21 = σ.1 0 21) : bdy τ z := ⟨g1.trans h.1, g2.trans h.2.1, h.2.2⟩
theorem bdy.mk' {σ : nh_S} {c p : Nat} (h1 : 1 ≤ c) (h2 : c ≤ 4) : bdy (nh_si (nh_si σ 0 20 (nI c)) 0 21 (nI p)) (c, p) := ⟨by rw [bs_geti, if_neg (by omega), bs_geti, if_pos ⟨rfl, rfl⟩], by rw [bs_geti, if_pos ⟨rfl, rfl⟩], h1, h2⟩
theorem r_takeNumber_f {σ : nh_S} {z : Nat × Nat} (h : bdy σ z) {x y : Int32} {Q : Option Value → nh_S → Prop} (hQ : Q (some (.int 0)) σ) : nh_E kX9_takeNumber 0 [some (.ref 0), some (.int x), some (.int y), none, none, none] [] σ Q :=
  sg_X9_takeNumber_0 _ _ ⟨fun q => absurd q h.gt, fun _ => hQ⟩
theorem r_takeEnd_f {σ : nh_S} {z : Nat × Nat} (h : bdy σ z) {Q : Option Value → nh_S → Prop} (hQ : Q none σ) : nh_E kX9_takeEnd 0 [some (.ref 0)] [] σ Q :=
  sg_X9_takeEnd_0 ⟨fun _ => hQ, fun q => absurd q h.ne⟩
theorem fg_iff {x : Nat} (hx : x < 256) : (¬ (nI x < 48) ∧ ¬ (57 < nI x)) ↔ (48 ≤ x ∧ x ≤ 57) := by
  rw [show (48 : Int32) = nI 48 from rfl, show (57 : Int32) = nI 57 from rfl, nI_ltI (by omega) (by omega), nI_ltI (by omega) (by omega)]
  omega
theorem lt_iff {x : Nat} (hx : x < 256) : (¬ (nI x < 97) ∧ ¬ (122 < nI x)) ↔ (97 ≤ x ∧ x ≤ 122) := by
  rw [show (97 : Int32) = nI 97 from rfl, show (122 : Int32) = nI 122 from rfl, nI_ltI (by omega) (by omega), nI_ltI (by omega) (by omega)]
  omega
theorem vl_le {T : Nat → Nat} {s : Nat} : ∀ {k : Nat}, (∀ i, i < k → T (s + i) ≤ 57) → vl T s k + 1 ≤ 10 ^ k
  | 0, _ => by simp [vl]
  | k + 1, h => by
    have ih := vl_le (T := T) (s := s) (k := k) (fun i hi => h i (by omega))
    have := h k (by omega)
    rw [vl, Nat.pow_succ]
    omega
set_option maxHeartbeats 1000000 in
theorem r_takeNumber {σ : nh_S} {T : Nat → Nat} {n a lo hi : Nat} {x2 : Int32} (ht : rt σ T n) (h17 : σ.1 0 17 = nI a) (ha : a ≤ n) (h20 : σ.1 0 20 = 0) (hlo : lo ≤ 1000) (hhi : hi ≤ 1000) (hx : x2 = nI hi - 1) {Q : Option Value → nh_S → Prop}
    (hQb : ∀ z, tkN T n lo hi a = .error z → ∀ τ r, frI [17, 18, 20, 21] σ τ → bdy τ z → Q (some (.int r)) τ)
    (hQo : ∀ v e, tkN T n lo hi a = .ok (v, e) → ∀ τ, frI [17, 18] σ τ → τ.1 0 17 = nI e → τ.1 0 18 = nI v.2 → Q (some (.int (nI v.1))) τ) :
    nh_E kX9_takeNumber 0 [some (.ref 0), some (.int (nI lo)), some (.int x2), none, none, none] [] σ Q := by
  have hn := ht.2.1
  have s1 := sk_ge T n a
  have s2 := sk_le (T := T) ha
  have d1 := dge_ge T n (sk T n a)
  have d2 := dge_le (T := T) s2
  generalize hsk : sk T n a = s at s1 s2 d1 d2
  generalize hdg : dge T n s = e at d1 d2
  have htk : tkN T n lo hi a = if e = s then .error (1, s) else if e - s < 4 ∧ lo ≤ vl T s (e - s) ∧ vl T s (e - s) < hi then .ok ((vl T s (e - s), s), e) else .error (2, s) := by
    unfold tkN
    rw [hsk, hdg]
  have hin : ∀ i, s ≤ i → i < e → (48 ≤ T i ∧ T i ≤ 57) ∧ i < n := by
    intro i h1 h2
    rw [← hdg] at h2
    obtain ⟨q1, q2⟩ := rx_in _ _ n s i (by omega) h1 h2
    exact ⟨of_decide_eq_true q1, q2⟩
  have hstop : e < n → ¬ (48 ≤ T e ∧ T e ≤ 57) := by
    intro h
    have := rx_stop (fun i => decide (48 ≤ T i ∧ T i ≤ 57)) n n s (by omega) (by show dge T n s < n; rw [hdg]; exact h)
    rw [show rx (fun i => decide (48 ≤ T i ∧ T i ≤ 57)) n s = e from hdg] at this
    exact of_decide_eq_false this
  refine sg_X9_takeNumber_0 _ _ ⟨fun _ => ?_, fun q => absurd (by rw [h20]; decide) q⟩
  refine r_here (n - a) a σ ht h17 (by omega) (fun τ t1 t2 => ⟨_, rfl, ?_⟩)
  rw [hsk] at t2 ⊢
  dsimp only
  rw [t2]
  have f1 : frI [17, 18] σ (nh_si τ 0 18 (nI s)) := (t1.mono (by decide)).si _ (by decide)
  have hc : (¬ ((if s < n then nI (T s) else -1) < 48) ∧ ¬ (57 < (if s < n then nI (T s) else -1))) ↔ e ≠ s := by
    by_cases h : s < n
    · rw [if_pos h, fg_iff (ht.2.2 s h).2]
      constructor
      · intro q e2
        exact hstop (by omega) (by rw [e2]; exact q)
      · intro q
        exact (hin s (Nat.le_refl _) (by omega)).1
    · rw [if_neg h]
      constructor
      · intro q; exact absurd (by decide) q.1
      · intro q; omega
  refine r_want (by rw [bs_geti, if_neg (by omega), t1.2 20 (by decide)]; exact h20) (by decide) (fun g => ⟨_, rfl, fun _ => ?_, fun q => absurd q (by decide)⟩) (fun g => ⟨_, rfl, fun q => absurd rfl q, fun _ => ?_⟩)
  · have hes := hc.mp g
    rw [if_neg hes] at htk
    -- behind the figures
    have fin : ∀ υ x4, frI [17, 18] σ υ → υ.1 0 17 = nI e → υ.1 0 18 = nI s → (e - s ≤ 3 → x4 = nI (vl T s (e - s))) → ∀ (c : Prop) [Decidable c], (c ↔ (¬ (4 ≤ (υ.1 0 17) - (υ.1 0 18)) ∧ (¬ (x4 < nI lo) ∧ ¬ (x2 < x4)))) → nh_E kX9_want 0 [some (.ref 0), some (.int (if c then 1 else 0)), some (.int 2), some (.int (υ.1 0 18))] [] υ (nh_qi fun r3 τ2 => Q (some (.int x4)) τ2) := by
      intro υ x4 u1 u2 u3 u4 c _ hcc
      have e1 : nI e - nI s = nI (e - s) := pk_sub d1
      have hcv : c ↔ (e - s < 4 ∧ lo ≤ vl T s (e - s) ∧ vl T s (e - s) < hi) := by
        rw [hcc, u2, u3, e1, show (4 : Int32) = nI 4 from rfl, nI_leI (by omega) (by omega)]
        by_cases h4 : e - s < 4
        · have hv := vl_le (T := T) (s := s) (k := e - s) (fun i hi => (hin (s + i) (by omega) (by omega)).1.2)
          have h10 : 10 ^ (e - s) ≤ 10 ^ 3 := Nat.pow_le_pow_right (by omega) (by omega)
          rw [u4 (by omega), hx, nI_ltI (by omega) (by omega), Int32.lt_iff_toInt_lt, show (nI hi - 1).toInt = (hi : Int) - 1 from pk_sub_toInt (a := hi) (b := 1) (by omega) (by omega), nI_toInt (by omega)]
          omega
        · constructor
          · rintro ⟨q, -⟩; omega
          · rintro ⟨q, -⟩; omega
      rw [u3]
      refine r_want (by rw [u1.2 20 (by decide)]; exact h20) (by decide) (fun g2 => ⟨_, rfl, ?_⟩) (fun g2 => ⟨_, rfl, ?_⟩)
      · have g3 := hcv.mp g2
        rw [if_pos g3] at htk
        rw [u4 (by omega)]
        exact hQo _ _ htk υ u1 u2 u3
      · rw [if_neg (fun q => g2 (hcv.mpr q))] at htk
        exact hQb _ htk _ _ (((u1.mono (by decide)).si _ (by decide)).si _ (by decide)) (bdy.mk' (c := 2) (by omega) (by omega))
    have loop : ∀ (d i : Nat) (υ : nh_S) (x4 : Int32), i + d = e → s ≤ i → frI [17, 18] σ υ → υ.1 0 17 = nI i → υ.1 0 18 = nI s → (i - s ≤ 3 → x4 = nI (vl T s (i - s))) → nh_E kX9_takeNumber 50 [some (.ref 0), some (.int (nI lo)), some (.int x2), none, some (.int x4), none] [] υ Q := by
      intro d
      induction d with
      | zero =>
        intro i υ x4 h1 h2 u1 u2 u3 u4
        have ei : i = e := by omega
        subst ei
        have htu := ht.fr u1 (by decide)
        refine sg_X9_takeNumber_50 _ _ _ ?_
        have hf := fin υ x4 u1 u2 u3 u4 _ Iff.rfl
        refine pk_le n i (fun c => hf) (fun c => ?_) htu.1 u2
        rw [u2, pk_cl i rfl (by omega), (htu.2.2 i c).1]
        rw [u2] at hf
        refine ⟨pk_in i 600 (by omega), fun _ => hf, fun q => absurd ((fg_iff (htu.2.2 i c).2).mp q) (hstop c)⟩
      | succ d ih =>
        intro i υ x4 h1 h2 u1 u2 u3 u4
        have htu := ht.fr u1 (by decide)
        obtain ⟨g1, g2⟩ := hin i h2 (by omega)
        refine sg_X9_takeNumber_50 _ _ _ ?_
        refine pk_le n i (fun c => by omega) (fun c => ?_) htu.1 u2
        rw [u2, pk_cl i rfl (by omega), (htu.2.2 i c).1, nI_1]
        refine ⟨pk_in i 600 (by omega), fun q => absurd ((fg_iff (htu.2.2 i c).2).mpr g1) q, fun _ => ?_⟩
        refine ih (i + 1) _ _ (by omega) (by omega) (u1.si _ (by decide)) (by rw [bs_geti, if_pos ⟨rfl, rfl⟩]) (by rw [bs_geti, if_neg (by omega)]; exact u3) (fun h3 => ?_)
        have hv := vl_le (T := T) (s := s) (k := i - s) (fun j hj => (hin (s + j) (by omega) (by omega)).1.2)
        have h10 : 10 ^ (i - s) ≤ 10 ^ 3 := Nat.pow_le_pow_right (by omega) (by omega)
        rw [u4 (by omega), if_pos (by rw [show (99999 : Int32) = nI 99999 from rfl]; exact nI_le (by omega) (by omega)), show (10 : Int32) = nI 10 from rfl, pk_mul, nI_add, show (48 : Int32) = nI 48 from rfl, pk_sub (by omega)]
        rw [show i + 1 - s = (i - s) + 1 by omega, vl, show s + (i - s) = i by omega]
        congr 1
        omega
    exact loop (e - s) s _ 0 (by omega) (Nat.le_refl _) f1 (by rw [bs_geti, if_neg (by omega)]; exact t2) (by rw [bs_geti, if_pos ⟨rfl, rfl⟩]) (fun _ => by rw [Nat.sub_self]; rfl)
  · have hes : e = s := Classical.byContradiction (fun q => g (hc.mpr q))
    rw [if_pos hes] at htk
    exact hQb _ htk _ _ (((f1.mono (by decide)).si _ (by decide)).si _ (by decide)) (bdy.mk' (c := 1) (by omega) (by omega))
theorem r_takeWord {σ : nh_S} {T : Nat → Nat} {n a : Nat} (ht : rt σ T n) (h17 : σ.1 0 17 = nI a) (ha : a ≤ n) {Q : Option Value → nh_S → Prop}
    (hQ : ∀ τ, frI [17, 18, 19] σ τ → τ.1 0 17 = nI (lte T n (sk T n a)) → τ.1 0 18 = nI (sk T n a) → τ.1 0 19 = nI (lte T n (sk T n a) - sk T n a) → Q none τ) : nh_E kX9_takeWord 0 [some (.ref 0), none] [] σ Q := by
  have hn := ht.2.1
  have s1 := sk_ge T n a
  have s2 := sk_le (T := T) ha
  have d1 := lte_ge T n (sk T n a)
  have d2 := lte_le (T := T) s2
  generalize hsk : sk T n a = s at s1 s2 d1 d2 hQ
  generalize hdg : lte T n s = e at d1 d2 hQ
  have hin : ∀ i, s ≤ i → i < e → (97 ≤ T i ∧ T i ≤ 122) ∧ i < n := by
    intro i h1 h2
    rw [← hdg] at h2
    obtain ⟨q1, q2⟩ := rx_in _ _ n s i (by omega) h1 h2
    exact ⟨of_decide_eq_true q1, q2⟩
  have hstop : e < n → ¬ (97 ≤ T e ∧ T e ≤ 122) := by
    intro h
    have := rx_stop (fun i => decide (97 ≤ T i ∧ T i ≤ 122)) n n s (by omega) (by show lte T n s < n; rw [hdg]; exact h)
    rw [show rx (fun i => decide (97 ≤ T i ∧ T i ≤ 122)) n s = e from hdg] at this
    exact of_decide_eq_false this
  refine sg_X9_takeWord_0 ?_
  refine r_here (n - a) a σ ht h17 (by omega) (fun τ t1 t2 => ⟨_, rfl, ?_⟩)
  rw [hsk] at t2
  dsimp only
  rw [t2]
  have fin : ∀ υ, frI [17, 18, 19] σ υ → υ.1 0 17 = nI e → υ.1 0 18 = nI s → Q none (nh_si υ 0 19 ((υ.1 0 17) - (υ.1 0 18))) := by
    intro υ u1 u2 u3
    rw [u2, u3, pk_sub d1]
    exact hQ _ (u1.si _ (by decide)) (by rw [bs_geti, if_neg (by omega)]; exact u2) (by rw [bs_geti, if_neg (by omega)]; exact u3) (by rw [bs_geti, if_pos ⟨rfl, rfl⟩])
  have loop : ∀ (d i : Nat) (υ : nh_S), i + d = e → s ≤ i → frI [17, 18, 19] σ υ → υ.1 0 17 = nI i → υ.1 0 18 = nI s → nh_E kX9_takeWord 13 [some (.ref 0), none] [] υ Q := by
    intro d
    induction d with
    | zero =>
      intro i υ h1 h2 u1 u2 u3
      have ei : i = e := by omega
      subst ei
      have htu := ht.fr u1 (by decide)
      have hf := fin υ u1 u2 u3
      refine sg_X9_takeWord_13 (pk_le n i (fun c => hf) (fun c => ?_) htu.1 u2)
      rw [u2] at hf ⊢
      rw [pk_cl i rfl (by omega), (htu.2.2 i c).1]
      exact ⟨pk_in i 600 (by omega), fun _ => hf, fun q => absurd ((lt_iff (htu.2.2 i c).2).mp q) (hstop c)⟩
    | succ d ih =>
      intro i υ h1 h2 u1 u2 u3
      have htu := ht.fr u1 (by decide)
      obtain ⟨g1, g2⟩ := hin i h2 (by omega)
      refine sg_X9_takeWord_13 (pk_le n i (fun c => by omega) (fun c => ?_) htu.1 u2)
      rw [u2, pk_cl i rfl (by omega), (htu.2.2 i c).1, nI_1]
      refine ⟨pk_in i 600 (by omega), fun q => absurd ((lt_iff (htu.2.2 i c).2).mpr g1) q, fun _ => ?_⟩
      exact ih (i + 1) _ (by omega) (by omega) (u1.si _ (by decide)) (by rw [bs_geti, if_pos ⟨rfl, rfl⟩]) (by rw [bs_geti, if_neg (by omega)]; exact u3)
  exact loop (e - s) s _ (by omega) (Nat.le_refl _) ((t1.mono (by decide)).si _ (by decide)) (by rw [bs_geti, if_neg (by omega)]; exact t2) (by rw [bs_geti, if_pos ⟨rfl, rfl⟩])
theorem r_isWord {σ : nh_S} {T : Nat → Nat} {n a : Nat} {w : List Nat} {x1 x2 x3 x4 x5 x6 : Int32} (ht : rt σ T n) (ha : a ≤ n) (h18 : σ.1 0 18 = nI (sk T n a)) (h19 : σ.1 0 19 = nI (lte T n (sk T n a) - sk T n a)) (h1 : x1 = nI w.length) (hl : w.length ≤ 5)
    (hw : ∀ k, k < w.length → (if nI k = 0 then x2 else (if nI k = 1 then x3 else (if nI k = 2 then x4 else (if nI k = 3 then x5 else x6)))) = nI (w.getD k 0) ∧ w.getD k 0 < 256) {Q : Option Value → nh_S → Prop} (hQ : Q (some (.int (if wd T n a w = true then 1 else 0))) σ) :
    nh_E kX9_isWord 0 [some (.ref 0), some (.int x1), some (.int x2), some (.int x3), some (.int x4), some (.int x5), some (.int x6), none, none] [] σ Q := by
  have hn := ht.2.1
  have s1 := sk_ge T n a
  have s2 := sk_le (T := T) ha
  have d1 := lte_ge T n (sk T n a)
  have d2 := lte_le (T := T) s2
  refine sg_X9_isWord_0 _ _ _ _ _ _ ?_
  rw [h19, h1]
  have loop : ∀ (d k : Nat) (b : Bool), k + d = w.length → (b = true ↔ (lte T n (sk T n a) - sk T n a = w.length ∧ ∀ j, j < k → T (sk T n a + j) = w.getD j 0)) → nh_E kX9_isWord 18 [some (.ref 0), some (.int (nI w.length)), some (.int x2), some (.int x3), some (.int x4), some (.int x5), some (.int x6), some (.int (if b = true then 1 else 0)), some (.int (nI k))] [] σ Q := by
    intro d
    induction d with
    | zero =>
      intro k b hk hb
      have ek : k = w.length := by omega
      subst ek
      refine sg_X9_isWord_18 _ _ _ _ _ _ _ _ (pk_le w.length w.length (fun _ => ⟨by cases b <;> simp, ?_⟩) (fun c => by omega))
      have e : b = wd T n a w := by
        rw [Bool.eq_iff_iff, hb, wd_iff]
      rw [e]
      exact hQ
    | succ d ih =>
      intro k b hk hb
      refine sg_X9_isWord_18 _ _ _ _ _ _ _ _ (pk_le w.length k (fun c => by omega) (fun c => ?_))
      cases b with
      | false =>
        refine ⟨fun _ => ⟨Or.inl (by simp), ?_⟩, fun q => absurd (by simp) q⟩
        have e : wd T n a w = false := by
          cases hwd : wd T n a w with
          | false => rfl
          | true =>
            obtain ⟨q1, q2⟩ := wd_iff.mp hwd
            have := hb.mpr ⟨q1, fun j hj => q2 j (by omega)⟩
            cases this
        rw [e] at hQ
        exact hQ
      | true =>
        obtain ⟨q1, q2⟩ := hb.mp rfl
        refine ⟨fun q => absurd q (by decide), fun _ => ?_⟩
        rw [h18, nI_add, nI_1, pk_cl (sk T n a + k) rfl (by omega), (ht.2.2 (sk T n a + k) (by omega)).1, (hw k c).1]
        refine ⟨pk_in (sk T n a + k) 600 (by omega), ?_⟩
        have h2 := ih (k + 1) (decide (T (sk T n a + k) = w.getD k 0)) (by omega) (by
          rw [decide_eq_true_iff]
          constructor
          · intro q
            refine ⟨q1, fun j hj => ?_⟩
            rcases (show j < k ∨ j = k by omega) with z | rfl
            · exact q2 j z
            · exact q
          · intro q
            exact q.2 k (by omega))
        have e : (if nI (T (sk T n a + k)) = nI (w.getD k 0) then (1 : Int32) else 0) = if decide (T (sk T n a + k) = w.getD k 0) = true then 1 else 0 := by
          have hiff := nI_eq (a := T (sk T n a + k)) (b := w.getD k 0) (by have := (ht.2.2 (sk T n a + k) (by omega)).2; omega) (by have := (hw k c).2; omega)
          by_cases z : T (sk T n a + k) = w.getD k 0
          · rw [if_pos (hiff.mpr z), if_pos (decide_eq_true z)]
          · rw [if_neg (fun q => z (hiff.mp q)), if_neg (fun q => z (of_decide_eq_true q))]
        rw [e]
        exact h2
  have h := loop w.length 0 (decide (lte T n (sk T n a) - sk T n a = w.length)) (by omega) (by
    rw [decide_eq_true_iff]
    exact ⟨fun q => ⟨q, fun j hj => by omega⟩, fun q => q.1⟩)
  have e : (if nI (lte T n (sk T n a) - sk T n a) = nI w.length then (1 : Int32) else 0) = if decide (lte T n (sk T n a) - sk T n a = w.length) = true then 1 else 0 := by
    have hiff := nI_eq (a := lte T n (sk T n a) - sk T n a) (b := w.length) (by omega) (by omega)
    by_cases z : lte T n (sk T n a) - sk T n a = w.length
    · rw [if_pos (hiff.mpr z), if_pos (decide_eq_true z)]
    · rw [if_neg (fun q => z (hiff.mp q)), if_neg (fun q => z (of_decide_eq_true q))]
  rw [e]
  exact h
theorem r_takeEnd {σ : nh_S} {T : Nat → Nat} {n a : Nat} (ht : rt σ T n) (h17 : σ.1 0 17 = nI a) (ha : a ≤ n) (h20 : σ.1 0 20 = 0) {Q : Option Value → nh_S → Prop}
    (hQb : ∀ z, tkE T n a = .error z → ∀ τ, frI [17, 20, 21] σ τ → bdy τ z → Q none τ)
    (hQo : ∀ u e, tkE T n a = .ok (u, e) → ∀ τ, frI [17] σ τ → τ.1 0 17 = nI e → Q none τ) : nh_E kX9_takeEnd 0 [some (.ref 0)] [] σ Q := by
  have hn := ht.2.1
  have s2 := sk_le (T := T) ha
  refine sg_X9_takeEnd_0 ⟨fun q => absurd h20 q, fun _ => ?_⟩
  refine r_here (n - a) a σ ht h17 (by omega) (fun τ t1 t2 => ⟨_, rfl, ?_⟩)
  dsimp only
  rw [t2]
  have hc : ((if sk T n a < n then nI (T (sk T n a)) else -1) = (59 : Int32)) ↔ (sk T n a < n ∧ T (sk T n a) = 59) := by
    by_cases h : sk T n a < n
    · rw [if_pos h, show (59 : Int32) = nI 59 from rfl, nI_eq (by have := (ht.2.2 _ h).2; omega) (by omega)]
      exact ⟨fun q => ⟨h, q⟩, fun q => q.2⟩
    · rw [if_neg h]
      exact ⟨fun q => absurd q (by decide), fun q => absurd q.1 h⟩
  refine r_want (by rw [t1.2 20 (by decide)]; exact h20) (by decide) (fun g => ⟨_, rfl, fun q => absurd q (by decide), fun _ => ?_⟩) (fun g => ⟨_, rfl, fun _ => ?_, fun q => absurd rfl q⟩)
  · have h := hQo () (sk T n a + 1) (by unfold tkE; rw [if_pos (hc.mp g)])
    rw [t2, nI_1]
    exact h _ (t1.si _ (by decide)) (by rw [bs_geti, if_pos ⟨rfl, rfl⟩])
  · have h := hQb (1, sk T n a) (by unfold tkE; rw [if_neg (fun q => g (hc.mpr q))])
    exact h _ (((t1.mono (by decide)).si _ (by decide)).si _ (by decide)) (bdy.mk' (c := 1) (by omega) (by omega))
