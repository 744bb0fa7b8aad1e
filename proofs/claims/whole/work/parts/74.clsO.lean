/-! THE CLASS: THE TEXT -/
def tx (σ : nh_S) (T : Nat → Nat) (n a : Nat) : Prop := σ.1 1 1 = nI n ∧ n ≤ 600 ∧ (∀ i, i < n → σ.2.1 2 i = nI (T i) ∧ T i < 256) ∧ σ.1 1 5 = nI a ∧ a ≤ n
theorem tx.at {σ : nh_S} {T : Nat → Nat} {n a b : Nat} (h : tx σ T n a) (hb : b ≤ n) : tx (nh_si σ 1 5 (nI b)) T n b := ⟨by rw [bs_geti, if_neg (by omega)]; exact h.1, h.2.1, h.2.2.1, by rw [bs_geti, if_pos ⟨rfl, rfl⟩], hb⟩
theorem tx.si {σ : nh_S} {T : Nat → Nat} {n a : Nat} (h : tx σ T n a) {j : Nat} (x : Int32) (h1 : j ≠ 1) (h5 : j ≠ 5) : tx (nh_si σ 1 j x) T n a := ⟨by rw [bs_geti, if_neg (by omega)]; exact h.1, h.2.1, h.2.2.1, by rw [bs_geti, if_neg (by omega)]; exact h.2.2.2.1, h.2.2.2.2⟩
theorem tx.so {σ : nh_S} {T : Nat → Nat} {n a : Nat} (h : tx σ T n a) {k : Nat} (j : Nat) (x : Int32) (hk : k ≠ 1) : tx (nh_si σ k j x) T n a := ⟨by rw [si_neK σ j x hk.symm]; exact h.1, h.2.1, h.2.2.1, by rw [si_neK σ j x hk.symm]; exact h.2.2.2.1, h.2.2.2.2⟩
theorem tx.wa {σ : nh_S} {T : Nat → Nat} {n a : Nat} (h : tx σ T n a) {k : Nat} (i : Nat) (x : Int32) (hk : k ≠ 2) : tx (nh_wa σ k i x) T n a := ⟨h.1, h.2.1, fun i hi => by rw [wa_ne _ _ _ hk.symm]; exact h.2.2.1 i hi, h.2.2.2.1, h.2.2.2.2⟩
/-- nothing but the reader's own place, start and FAULT has changed -/
def frX (σ τ : nh_S) : Prop := τ.2 = σ.2 ∧ (∀ k, k ≠ 1 → τ.1 k = σ.1 k)
theorem frX.rf (σ : nh_S) : frX σ σ := ⟨rfl, fun _ _ => rfl⟩
theorem frX.tr {σ τ υ : nh_S} (h : frX σ τ) (g : frX τ υ) : frX σ υ := ⟨g.1.trans h.1, fun k hk => (g.2 k hk).trans (h.2 k hk)⟩
theorem frX.si {σ τ : nh_S} (h : frX σ τ) (j : Nat) (x : Int32) : frX σ (nh_si τ 1 j x) := ⟨h.1, fun k hk => by rw [si_neK τ j x hk]; exact h.2 k hk⟩
/-- and of these only the place -/
def frP (σ τ : nh_S) : Prop := frX σ τ ∧ τ.1 1 2 = σ.1 1 2 ∧ τ.1 1 3 = σ.1 1 3 ∧ τ.1 1 4 = σ.1 1 4
theorem frP.rf (σ : nh_S) : frP σ σ := ⟨frX.rf σ, rfl, rfl, rfl⟩
def csnd (σ : nh_S) : Prop := σ.1 1 3 = 0 ∧ σ.1 1 4 = -1
def cbd (σ : nh_S) (z : Nat × Nat) : Prop := σ.1 1 3 = nI z.1 ∧ σ.1 1 4 = nI z.2 ∧ 1 ≤ z.1 ∧ z.1 ≤ 4
theorem cbd.ne {σ : nh_S} {z : Nat × Nat} (h : cbd σ z) : ¬ σ.1 1 3 = 0 := by rw [h.1]; exact nI_ne0 (by have := h.2.2.1; omega) (by have := h.2.2.2; omega)
def gd (σ : nh_S) (T : Nat → Nat) (n a : Nat) : Prop := csnd σ ∧ tx σ T n a
def bq (σ : nh_S) (T : Nat → Nat) (n : Nat) (z : Nat × Nat) : Prop := cbd σ z ∧ ∃ b, tx σ T n b
theorem gd.fp {σ τ : nh_S} {T : Nat → Nat} {n a b : Nat} (h : gd σ T n a) (g : frP σ τ) (ht : tx τ T n b) : gd τ T n b := ⟨⟨g.2.2.1.trans h.1.1, g.2.2.2.trans h.1.2⟩, ht⟩
theorem bq.fp {σ τ : nh_S} {T : Nat → Nat} {n b : Nat} {z : Nat × Nat} (h : bq σ T n z) (g : frP σ τ) (ht : tx τ T n b) : bq τ T n z := ⟨⟨g.2.2.1.trans h.1.1, g.2.2.2.trans h.1.2.1, h.1.2.2⟩, b, ht⟩
theorem gd.wa {σ : nh_S} {T : Nat → Nat} {n a : Nat} (h : gd σ T n a) {k : Nat} (i : Nat) (x : Int32) (hk : k ≠ 2) : gd (nh_wa σ k i x) T n a := ⟨h.1, h.2.wa i x hk⟩
theorem bq.wa {σ : nh_S} {T : Nat → Nat} {n : Nat} {z : Nat × Nat} (h : bq σ T n z) {k : Nat} (i : Nat) (x : Int32) (hk : k ≠ 2) : bq (nh_wa σ k i x) T n z := ⟨h.1, h.2.imp fun _ g => g.wa i x hk⟩
theorem gd.so {σ : nh_S} {T : Nat → Nat} {n a : Nat} (h : gd σ T n a) {k : Nat} (j : Nat) (x : Int32) (hk : k ≠ 1) : gd (nh_si σ k j x) T n a := ⟨⟨by rw [si_neK σ j x hk.symm]; exact h.1.1, by rw [si_neK σ j x hk.symm]; exact h.1.2⟩, h.2.so j x hk⟩
theorem bq.so {σ : nh_S} {T : Nat → Nat} {n : Nat} {z : Nat × Nat} (h : bq σ T n z) {k : Nat} (j : Nat) (x : Int32) (hk : k ≠ 1) : bq (nh_si σ k j x) T n z := ⟨⟨by rw [si_neK σ j x hk.symm]; exact h.1.1, by rw [si_neK σ j x hk.symm]; exact h.1.2.1, h.1.2.2⟩, h.2.imp fun _ g => g.so j x hk⟩
theorem c_skip {T : Nat → Nat} {n : Nat} {Q : Option Value → nh_S → Prop} : ∀ (d a : Nat) (σ : nh_S), tx σ T n a → a + d = n → (∀ τ, frP σ τ → tx τ T n (sk T n a) → Q none τ) → nh_E kX6_skipBlanks 0 [some (.ref 1)] [] σ Q
  | 0, a, σ, ht, ha, hQ => by
    have hn := ht.2.1
    have e : sk T n a = a := rx_at (p := fun i => T i == 32) (fun h => by omega)
    rw [e] at hQ
    exact sg_X6_skipBlanks_0 (pk_le n a (fun _ => hQ σ (frP.rf σ) ht) (fun c => by omega) ht.1 ht.2.2.2.1)
  | d + 1, a, σ, ht, ha, hQ => by
    have hn := ht.2.1
    obtain ⟨t1, t2⟩ := ht.2.2.1 a (by omega)
    refine sg_X6_skipBlanks_0 (pk_le n a (fun c => by omega) (fun _ => ?_) ht.1 ht.2.2.2.1)
    rw [ht.2.2.2.1, pk_cl a rfl (by omega), t1, nI_1]
    refine ⟨pk_in a 600 (by omega), fun c => ?_, fun c => ?_⟩
    · have e : sk T n a = a := rx_at (p := fun i => T i == 32) (fun h => beq_false_of_ne (fun q => c (by rw [q]; rfl)))
      rw [e] at hQ
      exact hQ σ (frP.rf σ) ht
    · have c2 : T a = 32 := (nI_eq (a := T a) (b := 32) (by omega) (by decide)).mp c
      have e : sk T n a = sk T n (a + 1) := by
        unfold sk
        rw [rx_eq, if_pos ⟨by omega, by simp [c2]⟩]
      rw [e] at hQ
      refine c_skip d (a + 1) _ (ht.at (by omega)) (by omega) (fun τ g1 g2 => hQ τ ⟨((frX.rf σ).si _ _).tr g1.1, ?_, ?_, ?_⟩ g2)
      · rw [g1.2.1, bs_geti, if_neg (by omega)]
      · rw [g1.2.2.1, bs_geti, if_neg (by omega)]
      · rw [g1.2.2.2, bs_geti, if_neg (by omega)]
theorem c_blame {σ : nh_S} {T : Nat → Nat} {n a c p : Nat} (h : gd σ T n a) (h1 : 1 ≤ c) (h2 : c ≤ 4) {Q : Option Value → nh_S → Prop} (hQ : ∀ τ, frX σ τ → bq τ T n (c, p) → Q none τ) : nh_E kX6_blame 0 [some (.ref 1), some (.int (nI c)), some (.int (nI p))] [] σ Q := by
  refine sg_X6_blame_0 _ _ ⟨fun q => absurd h.1.1 q, fun _ => hQ _ (((frX.rf σ).si _ _).si _ _) ⟨⟨?_, ?_, h1, h2⟩, a, (h.2.si _ (by omega) (by omega)).si _ (by omega) (by omega)⟩⟩
  · rw [bs_geti, if_neg (by omega), bs_geti, if_pos ⟨rfl, rfl⟩]
  · rw [bs_geti, if_pos ⟨rfl, rfl⟩]
theorem c_blame_f {σ : nh_S} {z : Nat × Nat} (h : cbd σ z) (x y : Int32) {Q : Option Value → nh_S → Prop} (hQ : Q none σ) : nh_E kX6_blame 0 [some (.ref 1), some (.int x), some (.int y)] [] σ Q := sg_X6_blame_0 _ _ ⟨fun _ => hQ, fun q => absurd q h.ne⟩
theorem c_blameHere {σ : nh_S} {T : Nat → Nat} {n a : Nat} (h : gd σ T n a) {Q : Option Value → nh_S → Prop} (hQ : ∀ τ, frX σ τ → bq τ T n (1, sk T n a) → Q none τ) : nh_E kX6_blameHere 0 [some (.ref 1)] [] σ Q := by
  refine sg_X6_blameHere_0 (c_skip (n - a) a σ h.2 (by have := h.2.2.2.2.2; omega) (fun τ t1 t2 => ⟨rfl, ?_⟩))
  dsimp only
  rw [t2.2.2.2.1]
  exact c_blame (c := 1) (h.fp t1 t2) (by omega) (by omega) (fun υ u1 u2 => ⟨rfl, hQ υ (t1.1.tr u1) u2⟩)
theorem c_blameHere_f {σ : nh_S} {T : Nat → Nat} {n : Nat} {z : Nat × Nat} (h : bq σ T n z) {Q : Option Value → nh_S → Prop} (hQ : ∀ τ, frX σ τ → bq τ T n z → Q none τ) : nh_E kX6_blameHere 0 [some (.ref 1)] [] σ Q := by
  obtain ⟨h1, b, h2⟩ := h
  refine sg_X6_blameHere_0 (c_skip (n - b) b σ h2 (by have := h2.2.2.2.2; omega) (fun τ t1 t2 => ⟨rfl, ?_⟩))
  have hb := bq.fp ⟨h1, b, h2⟩ t1 t2
  exact c_blame_f hb.1 _ _ ⟨rfl, hQ τ t1.1 hb⟩
theorem c_goesOn {σ : nh_S} {T : Nat → Nat} {n a : Nat} (h : gd σ T n a) {Q : Option Value → nh_S → Prop} (hQ : ∀ τ, frX σ τ → gd τ T n (sk T n a) → Q (some (.int (if sk T n a < n then 1 else 0))) τ) : nh_E kX6_goesOn 0 [some (.ref 1)] [] σ Q := by
  refine sg_X6_goesOn_0 (c_skip (n - a) a σ h.2 (by have := h.2.2.2.2.2; omega) (fun τ t1 t2 => ⟨rfl, ?_⟩))
  have hg := h.fp t1 t2
  have h6 := t2.2.1
  have h7 := t2.2.2.2.2
  have hq := hQ τ t1.1 hg
  dsimp only
  rw [hg.1.1, t2.1, t2.2.2.2.1]
  by_cases c : sk T n a < n
  · rw [if_pos c] at hq
    rw [if_pos ⟨rfl, nI_ge c (by omega)⟩]
    exact hq
  · rw [if_neg c] at hq
    rw [if_neg (fun q => q.2 (nI_le (by omega) (by omega)))]
    exact hq
theorem c_goesOn_f {σ : nh_S} {T : Nat → Nat} {n : Nat} {z : Nat × Nat} (h : bq σ T n z) {Q : Option Value → nh_S → Prop} (hQ : ∀ τ, frX σ τ → bq τ T n z → Q (some (.int 0)) τ) : nh_E kX6_goesOn 0 [some (.ref 1)] [] σ Q := by
  obtain ⟨h1, b, h2⟩ := h
  refine sg_X6_goesOn_0 (c_skip (n - b) b σ h2 (by have := h2.2.2.2.2; omega) (fun τ t1 t2 => ⟨rfl, ?_⟩))
  have hb := bq.fp ⟨h1, b, h2⟩ t1 t2
  dsimp only
  rw [if_neg (fun q => hb.1.ne q.1)]
  exact hQ τ t1.1 hb
theorem c_takesSign {σ : nh_S} {T : Nat → Nat} {n a c : Nat} (hc : c < 256) (h : gd σ T n a) {Q : Option Value → nh_S → Prop} (hQ1 : sk T n a < n → T (sk T n a) = c → ∀ τ, frX σ τ → gd τ T n (sk T n a + 1) → Q (some (.int 1)) τ) (hQ0 : ¬ (sk T n a < n ∧ T (sk T n a) = c) → ∀ τ, frX σ τ → gd τ T n (sk T n a) → Q (some (.int 0)) τ) : nh_E kX6_takesSign 0 [some (.ref 1), some (.int (nI c))] [] σ Q := by
  refine sg_X6_takesSign_0 _ (c_skip (n - a) a σ h.2 (by have := h.2.2.2.2.2; omega) (fun τ t1 t2 => ⟨rfl, ?_⟩))
  have hg := h.fp t1 t2
  have h6 := t2.2.1
  have h7 := t2.2.2.2.2
  refine ⟨fun q => absurd hg.1.1 q, fun _ => ?_⟩
  refine pk_le n (sk T n a) (fun q => hQ0 (fun z => by omega) τ t1.1 hg) (fun q => ?_) t2.1 t2.2.2.2.1
  obtain ⟨g1, g2⟩ := t2.2.2.1 (sk T n a) q
  rw [t2.2.2.2.1, pk_cl (sk T n a) rfl (by omega), g1, nI_1, nI_eq (by omega) (by omega)]
  refine ⟨pk_in (sk T n a) 600 (by omega), fun q2 => hQ1 q q2 _ ((t1.1.si _ _).si _ _) ⟨⟨?_, ?_⟩, (t2.si _ (by omega) (by omega)).at (by omega)⟩, fun q2 => hQ0 (fun z => q2 z.2) τ t1.1 hg⟩
  · rw [bs_geti, if_neg (by omega), bs_geti, if_neg (by omega)]; exact hg.1.1
  · rw [bs_geti, if_neg (by omega), bs_geti, if_neg (by omega)]; exact hg.1.2
theorem c_takesSign_f {σ : nh_S} {T : Nat → Nat} {n : Nat} {z : Nat × Nat} (h : bq σ T n z) (x : Int32) {Q : Option Value → nh_S → Prop} (hQ : ∀ τ, frX σ τ → bq τ T n z → Q (some (.int 0)) τ) : nh_E kX6_takesSign 0 [some (.ref 1), some (.int x)] [] σ Q := by
  obtain ⟨h1, b, h2⟩ := h
  refine sg_X6_takesSign_0 _ (c_skip (n - b) b σ h2 (by have := h2.2.2.2.2; omega) (fun τ t1 t2 => ⟨rfl, ?_⟩))
  have hb := bq.fp ⟨h1, b, h2⟩ t1 t2
  exact ⟨fun _ => hQ τ t1.1 hb, fun q => absurd q hb.1.ne⟩
theorem c_endClause {σ : nh_S} {T : Nat → Nat} {n a : Nat} (h : gd σ T n a) {Q : Option Value → nh_S → Prop} (hQb : ∀ z, tkE T n a = .error z → ∀ τ, frX σ τ → bq τ T n z → Q none τ) (hQo : ∀ e, tkE T n a = .ok ((), e) → ∀ τ, frX σ τ → gd τ T n e → Q none τ) : nh_E kX6_endClause 0 [some (.ref 1)] [] σ Q := by
  refine sg_X6_endClause_0 (c_takesSign (c := 59) (by omega) h (fun c1 c2 τ t1 t2 => ⟨_, rfl, fun _ => ?_, fun q => absurd q (by decide)⟩) (fun c τ t1 t2 => ⟨_, rfl, fun q => absurd rfl q, fun _ => ?_⟩))
  · exact hQo _ (by unfold tkE; rw [if_pos ⟨c1, c2⟩]) τ t1 t2
  · refine c_blameHere t2 (fun υ u1 u2 => ⟨rfl, ?_⟩)
    rw [sk_sk] at u2
    exact hQb _ (by unfold tkE; rw [if_neg c]) υ (t1.tr u1) u2
theorem c_endClause_f {σ : nh_S} {T : Nat → Nat} {n : Nat} {z : Nat × Nat} (h : bq σ T n z) {Q : Option Value → nh_S → Prop} (hQ : ∀ τ, frX σ τ → bq τ T n z → Q none τ) : nh_E kX6_endClause 0 [some (.ref 1)] [] σ Q := by
  refine sg_X6_endClause_0 (c_takesSign_f h _ (fun τ t1 t2 => ⟨_, rfl, fun q => absurd rfl q, fun _ => ?_⟩))
  exact c_blameHere_f t2 (fun υ u1 u2 => ⟨rfl, hQ υ (t1.tr u1) u2⟩)
theorem c_takeNumber_f {σ : nh_S} {z : Nat × Nat} (h : cbd σ z) (x y : Int32) {Q : Option Value → nh_S → Prop} (hQ : Q (some (.int x)) σ) : nh_E kX6_takeNumber 0 [some (.ref 1), some (.int x), some (.int y), none, none] [] σ Q := sg_X6_takeNumber_0 _ _ ⟨fun q => absurd q h.ne, fun _ => hQ⟩
set_option maxHeartbeats 2000000 in
theorem c_takeNumber {σ : nh_S} {T : Nat → Nat} {n a lo hi : Nat} {x2 : Int32} (h : gd σ T n a) (hlo : lo ≤ 1000) (hhi : hi ≤ 1000) (hx : x2 = nI hi - 1) {Q : Option Value → nh_S → Prop}
    (hQb : ∀ z, tkN T n lo hi a = .error z → ∀ τ, frX σ τ → bq τ T n z → Q (some (.int (nI lo))) τ)
    (hQo : ∀ v e, tkN T n lo hi a = .ok (v, e) → ∀ τ, frX σ τ → gd τ T n e → τ.1 1 2 = nI v.2 → Q (some (.int (nI v.1))) τ) :
    nh_E kX6_takeNumber 0 [some (.ref 1), some (.int (nI lo)), some (.int x2), none, none] [] σ Q := by
  have hn := h.2.2.1
  have ha := h.2.2.2.2.2
  have s1 := sk_ge T n a
  have s2 := sk_le (T := T) ha
  have d1 := dge_ge T n (sk T n a)
  have d2 := dge_le (T := T) s2
  have hskip := fun (Q' : Option Value → nh_S → Prop) => c_skip (T := T) (n := n) (Q := Q') (n - a) a σ h.2 (by omega)
  generalize hsk : sk T n a = s at s1 s2 d1 d2 hskip
  generalize hdg : dge T n s = e at d1 d2
  have htk : tkN T n lo hi a = if e = s then .error (1, s) else if e - s < 4 ∧ lo ≤ vl T s (e - s) ∧ vl T s (e - s) < hi then .ok ((vl T s (e - s), s), e) else .error (2, s) := by
    unfold tkN
    rw [hsk, hdg]
  have hin : ∀ i, s ≤ i → i < e → (48 ≤ T i ∧ T i ≤ 57) ∧ i < n := by
    intro i h1 h2
    rw [← hdg] at h2
    obtain ⟨q1, q2⟩ := rx_in _ _ n s i (by omega) h1 h2
    exact ⟨of_decide_eq_true q1, q2⟩
  have hstop : e < n → ¬ (48 ≤ T e ∧ T e ≤ 57) := by
    intro h
    have := rx_stop (fun i => decide (48 ≤ T i ∧ T i ≤ 57)) n n s (by omega) (by show dge T n s < n; rw [hdg]; exact h)
    rw [show rx (fun i => decide (48 ≤ T i ∧ T i ≤ 57)) n s = e from hdg] at this
    exact of_decide_eq_false this
  have hv4 : e - s < 4 → vl T s (e - s) < 1000 := by
    intro h4
    have hv := vl_le (T := T) (s := s) (k := e - s) (fun i hi => (hin (s + i) (by omega) (by omega)).1.2)
    have h10 : 10 ^ (e - s) ≤ 10 ^ 3 := Nat.pow_le_pow_right (by omega) (by omega)
    omega
  -- behind the figures
  have fin : ∀ υ x3, frX σ υ → gd υ T n e → υ.1 1 2 = nI s → (e - s ≤ 3 → x3 = nI (vl T s (e - s))) →
      (¬ ((υ.1 1 5) - (υ.1 1 2) = 0) → ((3 < (υ.1 1 5) - (υ.1 1 2) → (nh_E kX6_blame 0 [some (.ref 1), some (.int 2), some (.int (υ.1 1 2))] [] υ (nh_qv fun τ4 => Q (some (.int (if τ4.1 1 3 = 0 then x3 else nI lo))) τ4))) ∧ (¬ (3 < (υ.1 1 5) - (υ.1 1 2)) → ((x3 < nI lo → (nh_E kX6_blame 0 [some (.ref 1), some (.int 2), some (.int (υ.1 1 2))] [] υ (nh_qv fun τ12 => Q (some (.int (if τ12.1 1 3 = 0 then x3 else nI lo))) τ12))) ∧ (¬ (x3 < nI lo) → ((x3 ≤ x2 → (Q (some (.int (if υ.1 1 3 = 0 then x3 else nI lo))) υ)) ∧ (¬ (x3 ≤ x2) → (nh_E kX6_blame 0 [some (.ref 1), some (.int 2), some (.int (υ.1 1 2))] [] υ (nh_qv fun τ24 => Q (some (.int (if τ24.1 1 3 = 0 then x3 else nI lo))) τ24))))))))) ∧ ((υ.1 1 5) - (υ.1 1 2) = 0 → (nh_E kX6_blame 0 [some (.ref 1), some (.int 1), some (.int (υ.1 1 2))] [] υ (nh_qv fun τ31 => Q (some (.int (if τ31.1 1 3 = 0 then x3 else nI lo))) τ31))) := by
    intro υ x3 u1 u2 u3 u4
    have bad : ∀ c, 1 ≤ c → c ≤ 4 → tkN T n lo hi a = .error (c, s) → nh_E kX6_blame 0 [some (.ref 1), some (.int (nI c)), some (.int (nI s))] [] υ (nh_qv fun τ4 => Q (some (.int (if τ4.1 1 3 = 0 then x3 else nI lo))) τ4) := by
      intro c c1 c2 c3
      refine c_blame u2 c1 c2 (fun ξ x1 x2 => ⟨rfl, ?_⟩)
      dsimp only; rw [if_neg x2.1.ne]
      exact hQb _ c3 ξ (u1.tr x1) x2
    have e1 : nI e - nI s = nI (e - s) := pk_sub d1
    rw [u3, u2.2.2.2.2.1, e1, u2.1.1]
    refine ⟨fun c0 => ?_, fun c0 => bad 1 (by omega) (by omega) ?_⟩
    · have hes : e ≠ s := fun q => c0 (by rw [q, Nat.sub_self]; rfl)
      rw [if_neg hes] at htk
      refine ⟨fun c3 => bad 2 (by omega) (by omega) ?_, fun c3 => ?_⟩
      · have c4 : 3 < e - s := (nI_ltI (a := 3) (by omega) (by omega)).mp c3
        rw [htk, if_neg (by omega)]
      · have c4 : ¬ 3 < e - s := fun q => c3 ((nI_ltI (a := 3) (by omega) (by omega)).mpr q)
        have hv := hv4 (by omega)
        have ex := u4 (by omega)
        have hle : x3 ≤ x2 ↔ vl T s (e - s) < hi := by
          rw [ex, hx, Int32.le_iff_toInt_le, show (nI hi - 1).toInt = (hi : Int) - 1 from pk_sub_toInt (a := hi) (b := 1) (by omega) (by omega), nI_toInt (by omega)]
          omega
        have hlt : x3 < nI lo ↔ vl T s (e - s) < lo := by rw [ex, nI_ltI (by omega) (by omega)]
        refine ⟨fun c5 => bad 2 (by omega) (by omega) ?_, fun c5 => ⟨fun c6 => ?_, fun c6 => bad 2 (by omega) (by omega) ?_⟩⟩
        · have := hlt.mp c5
          rw [htk, if_neg (by omega)]
        · have g1 : ¬ vl T s (e - s) < lo := fun q => c5 (hlt.mpr q)
          have g2 := hle.mp c6
          rw [if_pos rfl, ex]
          rw [if_pos ⟨by omega, by omega, g2⟩] at htk
          exact hQo _ _ htk υ u1 u2 u3
        · have g2 : ¬ vl T s (e - s) < hi := fun q => c6 (hle.mpr q)
          rw [htk, if_neg (by omega)]
    · have hes : e = s := by
        have := (nI_eq (a := e - s) (b := 0) (by omega) (by omega)).mp c0
        omega
      rw [htk, if_pos hes]
  have loop : ∀ (d i : Nat) (υ : nh_S) (x3 : Int32), i + d = e → s ≤ i → frX σ υ → gd υ T n i → υ.1 1 2 = nI s → (i - s ≤ 3 → x3 = nI (vl T s (i - s))) → nh_E kX6_takeNumber 23 [some (.ref 1), some (.int (nI lo)), some (.int x2), some (.int x3), none] [] υ Q := by
    intro d
    induction d with
    | zero =>
      intro i υ x3 h1 h2 u1 u2 u3 u4
      have ei : i = e := by omega
      subst ei
      have hf := fin υ x3 u1 u2 u3 u4
      refine sg_X6_takeNumber_23 _ _ _ ?_
      refine pk_le n i (fun c => hf) (fun c => ?_) u2.2.1 u2.2.2.2.2.1
      obtain ⟨g1, g2⟩ := u2.2.2.2.1 i c
      rw [u2.2.2.2.2.1] at hf ⊢
      rw [pk_cl i rfl (by omega), g1]
      exact ⟨pk_in i 600 (by omega), fun _ => hf, fun q => absurd ((fg_iff g2).mp q) (hstop c)⟩
    | succ d ih =>
      intro i υ x3 h1 h2 u1 u2 u3 u4
      obtain ⟨g1, g2⟩ := hin i h2 (by omega)
      obtain ⟨g3, g4⟩ := u2.2.2.2.1 i g2
      refine sg_X6_takeNumber_23 _ _ _ ?_
      refine pk_le n i (fun c => by omega) (fun c => ?_) u2.2.1 u2.2.2.2.2.1
      rw [u2.2.2.2.2.1, u3, pk_cl i rfl (by omega), g3, nI_1, pk_sub h2]
      have step : ∀ y, (i + 1 - s ≤ 3 → y = nI (vl T s (i + 1 - s))) → nh_E kX6_takeNumber 23 [some (.ref 1), some (.int (nI lo)), some (.int x2), some (.int y), none] [] (nh_si υ 1 5 (nI (i + 1))) Q := by
        intro y hy
        refine ih (i + 1) _ y (by omega) (by omega) (u1.si _ _) ⟨⟨?_, ?_⟩, u2.2.at (by omega)⟩ ?_ hy
        · rw [bs_geti, if_neg (by omega)]; exact u2.1.1
        · rw [bs_geti, if_neg (by omega)]; exact u2.1.2
        · rw [bs_geti, if_neg (by omega)]; exact u3
      refine ⟨pk_in i 600 (by omega), fun q => absurd ((fg_iff g4).mpr g1) q, fun _ => pk_le 3 (i - s) (fun c3 => step _ (fun h3 => by omega)) (fun c3 => step _ (fun h3 => ?_))⟩
      have hv := vl_le (T := T) (s := s) (k := i - s) (fun j hj => (hin (s + j) (by omega) (by omega)).1.2)
      have h10 : 10 ^ (i - s) ≤ 10 ^ 3 := Nat.pow_le_pow_right (by omega) (by omega)
      rw [u4 (by omega), show (10 : Int32) = nI 10 from rfl, pk_mul, nI_add, show (48 : Int32) = nI 48 from rfl, pk_sub (by omega)]
      rw [show i + 1 - s = (i - s) + 1 by omega, vl, show s + (i - s) = i by omega]
      congr 1
      omega
  refine sg_X6_takeNumber_0 _ _ ⟨fun _ => ?_, fun q => absurd h.1.1 q⟩
  refine hskip _ (fun τ t1 t2 => ⟨rfl, ?_⟩)
  dsimp only
  rw [t2.2.2.2.1]
  have hg := h.fp t1 t2
  refine loop (e - s) s _ 0 (by omega) (Nat.le_refl _) (t1.1.si _ _) ⟨⟨?_, ?_⟩, hg.2.si _ (by omega) (by omega)⟩ ?_ (fun _ => by rw [Nat.sub_self]; rfl)
  · rw [bs_geti, if_neg (by omega)]; exact hg.1.1
  · rw [bs_geti, if_neg (by omega)]; exact hg.1.2
  · rw [bs_geti, if_pos ⟨rfl, rfl⟩]
set_option maxHeartbeats 1000000 in
theorem c_takesWord {σ : nh_S} {T : Nat → Nat} {n a t : Nat} (ht : t < 5) (h : gd σ T n a) {Q : Option Value → nh_S → Prop} (hQ1 : wd T n a (wl t) = true → ∀ τ, frX σ τ → gd τ T n (lte T n (sk T n a)) → τ.1 1 2 = nI (sk T n a) → Q (some (.int 1)) τ) (hQ0 : ¬ wd T n a (wl t) = true → ∀ τ, frX σ τ → gd τ T n (sk T n a) → Q (some (.int 0)) τ) : nh_E kX6_takesWord 0 [some (.ref 1), some (.ref (900 + t)), none, none] [] σ Q := by
  have hn := h.2.2.1
  have ha := h.2.2.2.2.2
  have s2 := sk_le (T := T) ha
  have d1 := lte_ge T n (sk T n a)
  have d2 := lte_le (T := T) s2
  have hl := j_len t ht
  have hw := wl_len t ht
  have hb : ∀ t, t < 5 → ∀ k, k < 5 → (wl t).getD k 0 < 256 := by decide +kernel
  refine sg_X6_takesWord_0 t (c_skip (n - a) a σ h.2 (by omega) (fun τ t1 t2 => ⟨rfl, ?_⟩))
  have hg := h.fp t1 t2
  rw [wd_iff] at hQ1 hQ0
  generalize hsk : sk T n a = s at *
  generalize hdg : lte T n s = e at *
  have h5 : τ.1 1 5 = nI s := t2.2.2.2.1
  have hin : ∀ i, s ≤ i → i < e → (97 ≤ T i ∧ T i ≤ 122) ∧ i < n := by
    intro i h1 h2
    rw [← hdg] at h2
    obtain ⟨q1, q2⟩ := rx_in _ _ n s i (by omega) h1 h2
    exact ⟨of_decide_eq_true q1, q2⟩
  have hstop : e < n → ¬ (97 ≤ T e ∧ T e ≤ 122) := by
    intro h
    have := rx_stop (fun i => decide (97 ≤ T i ∧ T i ≤ 122)) n n s (by omega) (by show lte T n s < n; rw [hdg]; exact h)
    rw [show rx (fun i => decide (97 ≤ T i ∧ T i ≤ 122)) n s = e from hdg] at this
    exact of_decide_eq_false this
  have cmp : e - s = (wl t).length → ∀ d k, k + d = (wl t).length → (∀ j, j < k → T (s + j) = (wl t).getD j 0) → nh_E kX6_takesWord 59 [some (.ref 1), some (.ref (900 + t)), some (.int (nI e)), some (.int (nI k))] [] τ Q := by
    intro hes d
    induction d with
    | zero =>
      intro k hk hj
      refine sg_X6_takesWord_59 ht (by omega) _ (fun c => by omega) (fun _ => ?_)
      rw [h5]
      refine hQ1 ⟨hes, fun j hj2 => hj j (by omega)⟩ _ ((t1.1.si _ _).si _ _) ⟨⟨?_, ?_⟩, (t2.si _ (by omega) (by omega)).at (by omega)⟩ ?_
      · rw [bs_geti, if_neg (by omega), bs_geti, if_neg (by omega)]; exact hg.1.1
      · rw [bs_geti, if_neg (by omega), bs_geti, if_neg (by omega)]; exact hg.1.2
      · rw [bs_geti, if_neg (by omega), bs_geti, if_pos ⟨rfl, rfl⟩]
    | succ d ih =>
      intro k hk hj
      obtain ⟨g1, g2⟩ := t2.2.2.1 (s + k) (by omega)
      have hb2 := hb t ht k (by omega)
      refine sg_X6_takesWord_59 ht (by omega) _ (fun c => ?_) (fun c => by omega)
      rw [h5, nI_add, pk_cl (s + k) rfl (by omega), g1, nI_eq (by omega) (by omega)]
      refine ⟨pk_in (s + k) 600 (by omega), fun c2 => ih (k + 1) (by omega) (fun j hj2 => ?_), fun c2 => hQ0 (fun q => c2 (q.2 k c)) τ t1.1 hg⟩
      rcases (show j < k ∨ j = k by omega) with q | rfl
      · exact hj j q
      · exact c2
  have fin : (τ.1 1 3 = 0 → (nI e - τ.1 1 5 = nI (wl t).length → nh_E kX6_takesWord 59 [some (.ref 1), some (.ref (900 + t)), some (.int (nI e)), some (.int 0)] [] τ Q) ∧ (¬ (nI e - τ.1 1 5 = nI (wl t).length) → Q (some (.int 0)) τ)) ∧ (¬ (τ.1 1 3 = 0) → Q (some (.int 0)) τ) := by
    rw [h5, pk_sub d1, nI_eq (by omega) (by omega)]
    exact ⟨fun _ => ⟨fun c => cmp c _ 0 (Nat.zero_add _) (fun j hj => by omega), fun c => hQ0 (fun q => c q.1) τ t1.1 hg⟩, fun c => absurd hg.1.1 c⟩
  have loop : ∀ d i, i + d = e → s ≤ i → nh_E kX6_takesWord 9 [some (.ref 1), some (.ref (900 + t)), some (.int (nI i)), none] [] τ Q := by
    intro d
    induction d with
    | zero =>
      intro i h1 h2
      have ei : i = e := by omega
      subst ei
      refine sg_X6_takesWord_9 ht _ (fun c => ?_) (fun c q => ?_) (fun _ => fin)
      · rw [t2.1] at c
        exact pk_in i 600 (by have : ¬ n ≤ i := fun q => c (nI_le q (by omega)); omega)
      · rw [t2.1] at c
        have hlt : i < n := by have : ¬ n ≤ i := fun q => c (nI_le q (by omega)); omega
        obtain ⟨g1, g2⟩ := t2.2.2.1 i hlt
        rw [pk_cl i rfl (by omega), g1] at q
        exact absurd ((lt_iff g2).mp q) (hstop hlt)
    | succ d ih =>
      intro i h1 h2
      obtain ⟨g1, g2⟩ := hin i h2 (by omega)
      obtain ⟨g3, g4⟩ := t2.2.2.1 i g2
      refine sg_X6_takesWord_9 ht _ (fun c => pk_in i 600 (by omega)) (fun c q => ?_) (fun c => ?_)
      · rw [nI_1]
        exact ih (i + 1) (by omega) (by omega)
      · exfalso
        rw [t2.1, pk_cl i rfl (by omega), g3, lt_iff g4] at c
        rcases c with c | c
        · exact nI_ge g2 (by omega) c
        · exact c g1
  dsimp only
  rw [h5]
  exact loop (e - s) s (by omega) (Nat.le_refl _)
theorem c_takesWord_f {σ : nh_S} {T : Nat → Nat} {n t : Nat} {z : Nat × Nat} (ht : t < 5) (h : bq σ T n z) {Q : Option Value → nh_S → Prop} (hQ : ∀ τ, frX σ τ → bq τ T n z → Q (some (.int 0)) τ) : nh_E kX6_takesWord 0 [some (.ref 1), some (.ref (900 + t)), none, none] [] σ Q := by
  obtain ⟨h1, b, h2⟩ := h
  have hn := h2.2.1
  have hb := h2.2.2.2.2
  refine sg_X6_takesWord_0 t (c_skip (n - b) b σ h2 (by omega) (fun τ t1 t2 => ⟨rfl, ?_⟩))
  have hg := bq.fp ⟨h1, b, h2⟩ t1 t2
  have s2 := t2.2.2.2.2
  dsimp only
  rw [t2.2.2.2.1]
  have loop : ∀ d i, i + d = n → nh_E kX6_takesWord 9 [some (.ref 1), some (.ref (900 + t)), some (.int (nI i)), none] [] τ Q := by
    intro d
    induction d with
    | zero =>
      intro i h1
      have : nI n ≤ nI i := nI_le (by omega) (by omega)
      exact sg_X6_takesWord_9 ht _ (fun c => absurd (by rw [t2.1]; exact this) c) (fun c q => absurd (by rw [t2.1]; exact this) c) (fun _ => ⟨fun q => absurd q hg.1.ne, fun _ => hQ τ t1.1 hg⟩)
    | succ d ih =>
      intro i h1
      refine sg_X6_takesWord_9 ht _ (fun c => pk_in i 600 (by omega)) (fun c q => ?_) (fun _ => ⟨fun q => absurd q hg.1.ne, fun _ => hQ τ t1.1 hg⟩)
      rw [nI_1]
      exact ih (i + 1) (by omega)
  exact loop _ _ (Nat.add_sub_of_le s2)
