/-! THE REFERENCE: raising -/
/-- only these arrays, these ints of the object have changed -/
def frB (ks js : List Nat) (σ τ : nh_S) : Prop := (∀ k, k ∉ ks → τ.2.1 k = σ.2.1 k) ∧ ∀ j, j ∉ js → τ.1 0 j = σ.1 0 j
theorem frB.rf (ks js : List Nat) (σ : nh_S) : frB ks js σ σ := ⟨fun _ _ => rfl, fun _ _ => rfl⟩
theorem frB.tr {ks js : List Nat} {σ τ υ : nh_S} (h : frB ks js σ τ) (g : frB ks js τ υ) : frB ks js σ υ := ⟨fun k hk => (g.1 k hk).trans (h.1 k hk), fun k hk => (g.2 k hk).trans (h.2 k hk)⟩
theorem frB.wa {ks js : List Nat} {σ τ : nh_S} (h : frB ks js σ τ) {k : Nat} (i : Nat) (x : Int32) (hk : k ∈ ks) : frB ks js σ (nh_wa τ k i x) := ⟨fun j hj => by rw [wa_ne τ i x (fun e => hj (by rw [e]; exact hk))]; exact h.1 j hj, h.2⟩
theorem frB.si {ks js : List Nat} {σ τ : nh_S} (h : frB ks js σ τ) {j : Nat} (x : Int32) (hj : j ∈ js) : frB ks js σ (nh_si τ 0 j x) := ⟨h.1, fun i hi => by rw [si_ne τ 0 j x (fun e => hi (by rw [e]; exact hj))]; exact h.2 i hi⟩
theorem frB.mono {ks js ks' js' : List Nat} {σ τ : nh_S} (h : frB ks js σ τ) (hs : ∀ k ∈ ks, k ∈ ks') (ht : ∀ k ∈ js, k ∈ js') : frB ks' js' σ τ := ⟨fun k hk => h.1 k (fun q => hk (hs k q)), fun k hk => h.2 k (fun q => hk (ht k q))⟩
theorem frA.B {ks : List Nat} {σ τ : nh_S} (h : frA ks σ τ) (js : List Nat) : frB ks js σ τ := ⟨h.2, fun j _ => by rw [h.1]⟩
theorem frB.pr {ks js : List Nat} {σ τ : nh_S} (h : frB ks js σ τ) (hk : ∀ k ∈ [1, 2, 3, 6, 7, 8, 9, 10, 11, 12, 13, 14, 26], k ∉ ks) (hj : ∀ j ∈ [11, 14, 16, 21, 37], j ∉ js) : pr σ τ := by
  have w := fun k q => h.1 k (hk k q)
  have v := fun k q => h.2 k (hj k q)
  exact ⟨⟨w 1 (by decide), w 2 (by decide), w 3 (by decide), w 6 (by decide), w 7 (by decide), w 8 (by decide), w 9 (by decide), w 10 (by decide), w 11 (by decide), w 12 (by decide), w 13 (by decide), w 14 (by decide), w 26 (by decide)⟩, v 11 (by decide), v 14 (by decide), v 16 (by decide), v 21 (by decide), v 37 (by decide)⟩
theorem r_comeAll {S : SP} {σ : nh_S} (hR : RR σ S) (hW : WF S) {A : Nat → Option Nat} (h16 : ∀ h, h < sH S → σ.2.1 16 h = ot (A h)) {Q : Option Value → nh_S → Prop} (hQ : ∀ τ, frA [18] σ τ → (∀ p, p < sP S → τ.2.1 18 p = ot (A (sKp S p))) → Q none τ) : nh_E kX9_comeAll 0 [some (.ref 0), none] [] σ Q := by
  have h9 := hW.1.1
  have h12 := hW.1.2.1
  refine sg_X9_comeAll_0 ?_
  refine nh_loop (α := nh_S) (fun i τ => nh_E kX9_comeAll 2 [some (.ref 0), some (.int (nI i))] [] τ Q) (fun n τ => frA [18] σ τ ∧ ∀ p, p < n → τ.2.1 18 p = ot (A (sKp S p))) (sP S) ?_ ?_ (sP S) 0 σ (by omega) ⟨frA.rf _ _, fun p hp => by omega⟩
  · rintro τ ⟨t1, t2⟩
    have a9 : τ.2.1 9 1 = nI (sP S) := by rw [t1.2 9 (by decide)]; exact hR.1.2.1
    exact sg_X9_comeAll_2 _ (pk_le (sP S) (sP S) (fun _ => hQ τ t1 t2) (fun c => by omega) a9 rfl)
  · rintro i τ hi ⟨t1, t2⟩ ih
    have a9 : τ.2.1 9 1 = nI (sP S) := by rw [t1.2 9 (by decide)]; exact hR.1.2.1
    have hk := (hW.2.1.1 i hi).1
    have a1 : τ.2.1 1 i = nI (sKp S i) := by rw [t1.2 1 (by decide)]; exact (hR.2.1.1 i hi).1
    refine sg_X9_comeAll_2 _ (pk_le (sP S) i (fun c => by omega) (fun c => ?_) a9 rfl)
    rw [pk_cl i rfl (by omega), a1, pk_cl (sKp S i) rfl (by omega), nI_1]
    refine ⟨pk_in i 78 (by omega), pk_in (sKp S i) 9 (by omega), pk_in i 12 (by omega), ?_⟩
    refine ih _ ⟨t1.wa _ _ (by decide), fun p hp => ?_⟩
    rw [bs_get]
    by_cases e : p = i
    · subst e
      rw [if_pos ⟨rfl, rfl⟩, t1.2 16 (by decide)]
      exact h16 _ hk
    · rw [if_neg (fun z => e z.2)]
      exact t2 p (by omega)
theorem ot_none : ot none = -1 := rfl
/-- a PART goes to its place among those that are there -/
theorem r_shift {σ : nh_S} {r : Nat → Nat} {L : List Nat} {p : Nat} {x1 : Int32} (hlen : L.length ≤ 11) (hp : p < 12) (hL : ∀ x ∈ L, x < 12) (hr : ∀ x, x ∈ L ∨ x = p → r x < 2 ^ 31) (hrd : ∀ x, x ∈ L ∨ x = p → σ.2.1 19 x = nI (r x)) (h31 : σ.1 0 31 = nI L.length) {Q : Option Value → nh_S → Prop}
    (hK : ∀ υ, frB [20] [31] σ υ → υ.1 0 31 = nI (L.length + 1) → (∀ j b, (insR r p L)[j]? = some b → υ.2.1 20 j = nI b) → nh_E kX9_putIn 7 [some (.ref 0), some (.int x1), some (.int (nI (p + 1))), none, none] [] υ Q) :
    ∀ (k : Nat) (τ : nh_S), k ≤ L.length → ik r (r p) L L.length = ik r (r p) L k → frB [20] [] σ τ → (∀ j b, j < k → L[j]? = some b → τ.2.1 20 j = nI b) → (∀ j b, k ≤ j → L[j]? = some b → τ.2.1 20 (j + 1) = nI b) → nh_E kX9_putIn 126 [some (.ref 0), some (.int x1), some (.int (nI p)), some (.int (nI k)), none] [] τ Q := by
  have put : ∀ (k : Nat) (τ : nh_S), k ≤ L.length → ik r (r p) L L.length = k → frB [20] [] σ τ → (∀ j b, j < k → L[j]? = some b → τ.2.1 20 j = nI b) → (∀ j b, k ≤ j → L[j]? = some b → τ.2.1 20 (j + 1) = nI b) → vp_in (nI k) 12 ∧ nh_E kX9_putIn 7 [some (.ref 0), some (.int x1), some (.int (nI p + 1)), none, none] [] (nh_si (nh_wa τ 20 (nI k).toNatClampNeg (nI p)) 0 31 (τ.1 0 31 + 1)) Q := by
    intro k τ hk hik hf h1 h2
    refine ⟨pk_in k 12 (by omega), ?_⟩
    rw [pk_cl k rfl (by omega), nI_1, hf.2 31 (by decide), h31, nI_1]
    refine hK _ (((hf.mono (fun _ h => h) (by decide)).wa _ _ (by decide)).si _ (by decide)) (by rw [bs_geti, if_pos ⟨rfl, rfl⟩]) (fun j b hjb => ?_)
    show (nh_wa τ 20 k (nI p)).2.1 20 j = nI b
    rw [bs_get]
    unfold insR at hjb
    rw [hik] at hjb
    have hlk : (L.take k).length = k := by rw [List.length_take]; omega
    rcases Nat.lt_trichotomy j k with q | q | q
    · rw [if_neg (by omega)]
      rw [List.getElem?_append_left (by omega), List.getElem?_take_of_lt q] at hjb
      exact h1 j b q hjb
    · subst q
      rw [if_pos ⟨rfl, rfl⟩]
      rw [List.getElem?_append_right (by omega), hlk, Nat.sub_self] at hjb
      simp at hjb
      rw [hjb]
    · rw [if_neg (by omega)]
      rw [List.getElem?_append_right (by omega), hlk] at hjb
      obtain ⟨d, rfl⟩ : ∃ d, j = k + (d + 1) := ⟨j - k - 1, by omega⟩
      rw [show k + (d + 1) - k = d + 1 by omega, List.getElem?_cons_succ, List.getElem?_drop] at hjb
      exact h2 (k + d) b (by omega) hjb
  intro k
  induction k with
  | zero =>
    intro τ hk hik hf h1 h2
    refine sg_X9_putIn_126 _ _ _ (pk_le 0 0 (fun _ => ?_) (fun c => by omega))
    exact put 0 τ hk hik hf h1 h2
  | succ k ih =>
    intro τ hk hik hf h1 h2
    obtain ⟨b, hb⟩ : ∃ b, L[k]? = some b := ⟨_, List.getElem?_eq_getElem (by omega)⟩
    have hbL : b ∈ L := List.mem_of_getElem? hb
    have hb12 := hL b hbL
    have a20 : τ.2.1 20 k = nI b := h1 k b (by omega) hb
    have a19 : τ.2.1 19 b = nI (r b) := by rw [hf.1 19 (by decide)]; exact hrd b (Or.inl hbL)
    have a19p : τ.2.1 19 p = nI (r p) := by rw [hf.1 19 (by decide)]; exact hrd p (Or.inr rfl)
    have hgd : L.getD k 0 = b := by rw [List.getD_eq_getElem?_getD, hb]; rfl
    refine sg_X9_putIn_126 _ _ _ (pk_le (k + 1) 0 (fun c => by omega) (fun c => ?_))
    rw [nI_pred, pk_cl k rfl (by omega), a20, pk_cl b rfl (by omega), a19, pk_cl p rfl (by omega), a19p]
    refine ⟨pk_in k 12 (by omega), pk_in b 12 (by omega), pk_in p 12 hp, ?_⟩
    refine pk_le (r b) (r p) (fun c2 => ?_) (fun c2 => ?_) rfl rfl (hr b (Or.inl hbL)) (hr p (Or.inr rfl))
    · refine put (k + 1) τ hk ?_ hf h1 h2
      rw [hik, ik, hgd, if_neg (by omega)]
    · refine ⟨pk_in (k + 1) 12 (by omega), ?_⟩
      rw [pk_m1, pk_cl (k + 1) rfl (by omega)]
      refine ih _ (by omega) (by rw [hik, ik, hgd, if_pos c2]) (hf.wa _ _ (by decide)) (fun j x hj hx => ?_) (fun j x hj hx => ?_)
      · rw [bs_get, if_neg (by omega)]
        exact h1 j x (by omega) hx
      · rw [bs_get]
        rcases (show j = k ∨ k < j by omega) with q | q
        · subst q
          rw [if_pos ⟨rfl, rfl⟩]
          rw [hb] at hx
          cases hx
          rfl
        · rw [if_neg (by omega)]
          exact h2 j x (by omega) hx
/-- a PART's ready minute -/
theorem r_ready {S : SP} {σ : nh_S} (hR : RR σ S) (hW : WF S) {c : Nat → Nat} {p : Nat} (hp : p < sP S) {x1 : Int32} (hcb : ∀ q, q < sP S → c q ≤ 1000000) (hrd : ∀ q, q < p → (sBe S p).testBit q = true → σ.2.1 19 q = nI (rdy S c q)) (h0 : σ.2.1 19 p = nI (c p)) {Q : Option Value → nh_S → Prop}
    (hK : ∀ υ, frB [19] [] σ υ → υ.2.1 19 p = nI (rdy S c p) → (∀ q, q ≠ p → υ.2.1 19 q = σ.2.1 19 q) → nh_E kX9_putIn 126 [some (.ref 0), some (.int x1), some (.int (nI p)), some (.int (υ.1 0 31)), none] [] υ Q) :
    nh_E kX9_putIn 50 [some (.ref 0), some (.int x1), some (.int (nI p)), some (.int (nI 0)), none] [] σ Q := by
  have h12 := hW.1.2.1
  have hbe := (hW.1.2.2.1 p hp).2.2
  have hpw : 2 ^ p ≤ 2 ^ 12 := pw_le (by omega)
  have hrb := rdy_le (S := S) (c := c) hcb (fun q hq => (hW.1.2.2.1 q hq).1)
  have hqb : ∀ n, n ≤ p → rq S (rdy S c) p (c p) n ≤ 1000800 := fun n hn => rq_le (by have := hcb p hp; omega) (fun q hq _ => by have := hrb (q + 1) q (by omega) (by omega); have := (hW.1.2.2.1 q (by omega)).1; omega) hn
  refine nh_loop (α := nh_S) (fun i τ => nh_E kX9_putIn 50 [some (.ref 0), some (.int x1), some (.int (nI p)), some (.int (nI i)), none] [] τ Q) (fun n τ => frB [19] [] σ τ ∧ τ.2.1 19 p = nI (rq S (rdy S c) p (c p) n) ∧ ∀ q, q ≠ p → τ.2.1 19 q = σ.2.1 19 q) p ?_ ?_ p 0 σ (by omega) ⟨frB.rf _ _ _, h0, fun _ _ => rfl⟩
  · rintro τ ⟨t1, t2, t3⟩
    refine sg_X9_putIn_50 _ _ _ (pk_le p p (fun _ => ?_) (fun c => by omega))
    exact hK τ t1 (by rw [rdy_eq]; exact t2) t3
  · rintro i τ hi ⟨t1, t2, t3⟩ ih
    have a8 : τ.2.1 8 p = nI (sBe S p) := by rw [t1.1 8 (by decide)]; exact (hR.1.2.2.1 p hp).2.2
    have a6 : τ.2.1 6 i = nI (sMi S i) := by rw [t1.1 6 (by decide)]; exact (hR.1.2.2.1 i (by omega)).1
    have a19i : τ.2.1 19 i = σ.2.1 19 i := t3 i (by omega)
    have hmi := (hW.1.2.2.1 i (by omega)).1
    have hri := hrb (i + 1) i (by omega) (by omega)
    have hqi := hqb i (by omega)
    refine sg_X9_putIn_50 _ _ _ (pk_le p i (fun c9 => by omega) (fun c9 => ?_))
    rw [pk_cl p rfl (by omega), pk_cl i rfl (by omega), a8, a6, t2, a19i, nI_1]
    refine ⟨pk_in p 24 (by omega), fun _ => ⟨pk_in i 12 (by omega), pk_in i 24 (by omega)⟩, pk_in p 12 (by omega), ?_⟩
    refine ih _ ⟨t1.wa _ _ (by decide), ?_, fun q hq => ?_⟩
    · rw [bs_get, if_pos ⟨rfl, rfl⟩, rq]
      have hh : nh_hs (nI (sBe S p)) (nI i) ↔ (sBe S p).testBit i = true := bs_hs (by omega) (by omega)
      by_cases e : (sBe S p).testBit i = true
      · rw [if_pos (hh.mpr e), hrd i (by omega) e, nI_add]
        by_cases e2 : rq S (rdy S c) p (c p) i < rdy S c i + sMi S i
        · rw [if_neg (by rw [nI_leI (by omega) (by omega)]; omega), if_pos ⟨e, e2⟩]
        · rw [if_pos (by rw [nI_leI (by omega) (by omega)]; omega), if_neg (fun z => e2 z.2)]
      · rw [if_neg (fun z => e (hh.mp z)), if_pos (nI_pos' (by omega)), if_neg (fun z => e z.1)]
    · rw [bs_get, if_neg (fun z => hq z.2)]
      exact t3 q hq
/-- what is known behind putIn -/
def pin (S : SP) (cm : Nat → Option Nat) (m : Nat) (τ : nh_S) : Prop := τ.1 0 31 = nI (ord S (cmN cm) m (sP S)).length ∧ (∀ k p, (ord S (cmN cm) m (sP S))[k]? = some p → τ.2.1 20 k = nI p ∧ τ.2.1 21 k = nI (if stT S (cmN cm) ((ord S (cmN cm) m (sP S)).take k) < cmN cm p then cmN cm p else stT S (cmN cm) ((ord S (cmN cm) m (sP S)).take k)))
theorem cm_bd {S : SP} {cm : Nat → Option Nat} (hb : ∀ p v, p < sP S → cm p = some v → v ≤ 1000000) : ∀ q, q < sP S → cmN cm q ≤ 1000000 := by
  intro q hq
  unfold cmN
  cases h : cm q with
  | none => simp
  | some v => exact hb q v hq h
set_option maxHeartbeats 1000000 in
theorem r_putIn {S : SP} {σ : nh_S} (hR : RR σ S) (hW : WF S) {m : Nat} (hm : m < 2 ^ 31) {cm : Nat → Option Nat} (h18 : ∀ p, p < sP S → σ.2.1 18 p = ot (cm p)) (hb : ∀ p v, p < sP S → cm p = some v → v ≤ 1000000) (hclo : clo S m) {Q : Option Value → nh_S → Prop}
    (hQ : ∀ τ, frB [19, 20, 21] [31] σ τ → (stO S cm m ≠ none → pin S cm m τ) → Q (some (.int (ot (stO S cm m)))) τ) : nh_E kX9_putIn 0 [some (.ref 0), some (.int (nI m)), none, none, none] [] σ Q := by
  have h12 := hW.1.2.1
  have hcb := cm_bd hb
  have hrb := rdy_le (S := S) (c := cmN cm) hcb (fun q hq => (hW.1.2.2.1 q hq).1)
  have hol := ord_len S (cmN cm) m
  have hmi : ∀ p ∈ ord S (cmN cm) m (sP S), sMi S p ≤ 60 := fun p hp => (hW.1.2.2.1 p (ord_mem.mp hp).1).1
  have hsb := stT_le (S := S) (c := cmN cm) (L := ord S (cmN cm) m (sP S)) (B := 1000000) (fun p hp => hcb p (ord_mem.mp hp).1) hmi
  refine sg_X9_putIn_0 _ ?_
  -- behind the ordering: they are put in
  have second : miss cm m (sP S) = false → ∀ τ, frB [19, 20, 21] [31] σ τ → τ.1 0 31 = nI (ord S (cmN cm) m (sP S)).length → (∀ k p, (ord S (cmN cm) m (sP S))[k]? = some p → τ.2.1 20 k = nI p) → nh_E kX9_putIn 199 [some (.ref 0), none, some (.int (nI 0)), some (.int (nI 0)), none] [] τ Q := by
    intro hmiss τ hτ h31 h20
    have est : stO S cm m = some (stT S (cmN cm) (ord S (cmN cm) m (sP S))) := by unfold stO; rw [if_neg (by rw [hmiss]; decide)]
    refine nh_loop (α := nh_S) (fun i υ => nh_E kX9_putIn 199 [some (.ref 0), none, some (.int (nI (stT S (cmN cm) ((ord S (cmN cm) m (sP S)).take i)))), some (.int (nI i)), none] [] υ Q) (fun n υ => frB [21] [] τ υ ∧ ∀ k p, k < n → (ord S (cmN cm) m (sP S))[k]? = some p → υ.2.1 21 k = nI (if stT S (cmN cm) ((ord S (cmN cm) m (sP S)).take k) < cmN cm p then cmN cm p else stT S (cmN cm) ((ord S (cmN cm) m (sP S)).take k))) (ord S (cmN cm) m (sP S)).length ?_ ?_ (ord S (cmN cm) m (sP S)).length 0 τ (by omega) ⟨frB.rf _ _ _, fun k p hk => by omega⟩
    · rintro υ ⟨u1, u2⟩
      have a31 : υ.1 0 31 = nI (ord S (cmN cm) m (sP S)).length := by rw [u1.2 31 (by decide)]; exact h31
      have := hol (sP S)
      refine sg_X9_putIn_199 _ _ (pk_le (ord S (cmN cm) m (sP S)).length (ord S (cmN cm) m (sP S)).length (fun _ => ?_) (fun c => by omega) a31 rfl)
      rw [List.take_length]
      have h := hQ υ (hτ.tr (u1.mono (by decide) (by decide))) (fun _ => ⟨a31, fun k p hk => ⟨by rw [u1.1 20 (by decide)]; exact h20 k p hk, u2 k p (List.getElem?_eq_some_iff.mp hk).1 hk⟩⟩)
      rw [est] at h
      exact h
    · rintro i υ hi ⟨u1, u2⟩ ih
      obtain ⟨p, hp⟩ : ∃ p, (ord S (cmN cm) m (sP S))[i]? = some p := ⟨_, List.getElem?_eq_getElem hi⟩
      have hpm := ord_mem.mp (List.mem_of_getElem? hp)
      have := hol (sP S)
      have a31 : υ.1 0 31 = nI (ord S (cmN cm) m (sP S)).length := by rw [u1.2 31 (by decide)]; exact h31
      have a20 : υ.2.1 20 i = nI p := by rw [u1.1 20 (by decide)]; exact h20 i p hp
      have hcp : ∃ v, cm p = some v := by
        cases q : cm p with
        | some v => exact ⟨v, rfl⟩
        | none =>
          exfalso
          have h1 : miss cm m (p + 1) = true := by
            show (miss cm m p || (m.testBit p && (cm p).isNone)) = true
            rw [q, hpm.2]
            simp
          have h2 := miss_mono (k := sP S - (p + 1)) h1
          rw [show p + 1 + (sP S - (p + 1)) = sP S by omega, hmiss] at h2
          cases h2
      obtain ⟨v, hv⟩ := hcp
      have hcv : cmN cm p = v := by unfold cmN; rw [hv]; rfl
      have a18 : υ.2.1 18 p = nI (cmN cm p) := by
        rw [u1.1 18 (by decide), hτ.1 18 (by decide), h18 p hpm.1, hv, hcv]; rfl
      have a6 : υ.2.1 6 p = nI (sMi S p) := by rw [u1.1 6 (by decide), hτ.1 6 (by decide)]; exact (hR.1.2.2.1 p hpm.1).1
      have hc1 := hcb p hpm.1
      have hs1 := hsb i
      refine sg_X9_putIn_199 _ _ (pk_le (ord S (cmN cm) m (sP S)).length i (fun c => by omega) (fun c => ?_) a31 rfl)
      rw [pk_cl i rfl (by omega), a20, pk_cl p rfl (by omega), a18, a6, bs_get, if_pos ⟨rfl, rfl⟩, nI_1]
      refine ⟨pk_in i 12 (by omega), pk_in p 12 (by omega), pk_in p 24 (by omega), ?_⟩
      have ev : (if nI (cmN cm p) ≤ nI (stT S (cmN cm) ((ord S (cmN cm) m (sP S)).take i)) then nI (stT S (cmN cm) ((ord S (cmN cm) m (sP S)).take i)) else nI (cmN cm p)) = nI (if stT S (cmN cm) ((ord S (cmN cm) m (sP S)).take i) < cmN cm p then cmN cm p else stT S (cmN cm) ((ord S (cmN cm) m (sP S)).take i)) := by
        by_cases e : stT S (cmN cm) ((ord S (cmN cm) m (sP S)).take i) < cmN cm p
        · rw [if_pos e, if_neg (by rw [nI_leI (by omega) (by omega)]; omega)]
        · rw [if_neg e, if_pos (by rw [nI_leI (by omega) (by omega)]; omega)]
      rw [ev, nI_add, ← stT_take hp]
      refine ih _ ⟨u1.wa _ _ (by decide), fun k q hk hq => ?_⟩
      rw [bs_get]
      by_cases e : k = i
      · subst e
        rw [if_pos ⟨rfl, rfl⟩]
        rw [hp] at hq
        cases hq
        rfl
      · rw [if_neg (fun z => e z.2)]
        exact u2 k q (by omega) hq
  refine nh_loop (α := nh_S) (fun i τ => nh_E kX9_putIn 7 [some (.ref 0), some (.int (nI m)), some (.int (nI i)), none, none] [] τ Q) (fun n τ => miss cm m n = false ∧ frB [19, 20, 21] [31] σ τ ∧ τ.1 0 31 = nI (ord S (cmN cm) m n).length ∧ (∀ k p, (ord S (cmN cm) m n)[k]? = some p → τ.2.1 20 k = nI p) ∧ ∀ q, q < n → m.testBit q = true → τ.2.1 19 q = nI (rdy S (cmN cm) q)) (sP S) ?_ ?_ (sP S) 0 (nh_si σ 0 31 0) (by omega) ⟨rfl, (frB.rf _ _ _).si _ (by decide), by rw [bs_geti, if_pos ⟨rfl, rfl⟩]; rfl, fun k p h => by simp [ord] at h, fun q hq => by omega⟩
  · rintro τ ⟨t0, t1, t2, t3, t4⟩
    have a9 : τ.2.1 9 1 = nI (sP S) := by rw [t1.1 9 (by decide)]; exact hR.1.2.1
    exact sg_X9_putIn_7 _ _ (pk_le (sP S) (sP S) (fun _ => second t0 τ t1 t2 t3) (fun c => by omega) a9 rfl)
  · rintro i τ hi ⟨t0, t1, t2, t3, t4⟩ ih
    have a9 : τ.2.1 9 1 = nI (sP S) := by rw [t1.1 9 (by decide)]; exact hR.1.2.1
    have a18 : τ.2.1 18 i = ot (cm i) := by rw [t1.1 18 (by decide)]; exact h18 i hi
    refine sg_X9_putIn_7 _ _ (pk_le (sP S) i (fun c => by omega) (fun c => ?_) a9 rfl)
    have hh : nh_hs (nI m) (nI i) ↔ m.testBit i = true := bs_hs hm (by omega)
    rw [pk_cl i rfl (by omega), a18, nI_1]
    refine ⟨fun c2 => ?_, fun c2 => ⟨pk_in i 12 (by omega), ?_⟩⟩
    · have nb : ¬ m.testBit i = true := fun q => c2 (hh.mpr q)
      have nb2 : m.testBit i = false := by simpa using nb
      refine ih τ ⟨?_, t1, ?_, ?_, fun q hq hqm => ?_⟩
      · show (miss cm m i || (m.testBit i && (cm i).isNone)) = false
        rw [t0, nb2]; rfl
      · rw [ord, if_neg nb]; exact t2
      · rw [ord, if_neg nb]; exact t3
      · rcases (show q < i ∨ q = i by omega) with z | rfl
        · exact t4 q z hqm
        · exact absurd hqm nb
    · have yb := hh.mp c2
      cases hci : cm i with
      | none =>
        refine ⟨fun q => absurd q (by decide), fun _ => ?_⟩
        have hms : miss cm m (sP S) = true := by
          have h1 : miss cm m (i + 1) = true := by
            show (miss cm m i || (m.testBit i && (cm i).isNone)) = true
            rw [hci, yb]; simp
          have h2 := miss_mono (k := sP S - (i + 1)) h1
          rw [show i + 1 + (sP S - (i + 1)) = sP S by omega] at h2
          exact h2
        have est : stO S cm m = none := by unfold stO; rw [if_pos hms]
        have h := hQ τ t1 (fun q => absurd est q)
        rw [est] at h
        exact h
      | some v =>
        have hvb := hb i v hi hci
        have hcv : cmN cm i = v := by unfold cmN; rw [hci]; rfl
        refine ⟨fun _ => ?_, fun q => absurd (nI_pos' (by omega)) q⟩
        have hp19 : frB [19, 20, 21] [31] σ (nh_wa τ 19 i (ot (some v))) := t1.wa _ _ (by decide)
        have hRt := hR.pr h12 (hp19.pr (by decide) (by decide))
        have hbi := (hW.1.2.2.1 i hi).2.2
        refine r_ready (c := cmN cm) hRt hW hi hcb (fun q hq hbq => ?_) (by rw [bs_get, if_pos ⟨rfl, rfl⟩, hcv]; rfl) (fun υ u1 u2 u3 => ?_)
        · rw [bs_get, if_neg (by omega)]
          exact t4 q hq (hclo i hi yb q hbq)
        · have a31 : υ.1 0 31 = nI (ord S (cmN cm) m i).length := by rw [u1.2 31 (by decide)]; exact t2
          rw [a31]
          have := hol i
          have u20 : υ.2.1 20 = τ.2.1 20 := by rw [u1.1 20 (by decide), wa_ne _ _ _ (by decide)]
          refine r_shift (r := rdy S (cmN cm)) (L := ord S (cmN cm) m i) (σ := υ) (by omega) (by omega) (fun x hx => by have := (ord_mem.mp hx).1; omega) (fun x hx => ?_) (fun x hx => ?_) a31 (fun ρ r1 r2 r3 => ?_) _ υ (Nat.le_refl _) rfl (frB.rf _ _ _) (fun j b _ hjb => by rw [u20]; exact t3 j b hjb) (fun j b hj hjb => by have := (List.getElem?_eq_some_iff.mp hjb).1; omega)
          · rcases hx with hx | rfl
            · have h1 := (ord_mem.mp hx).1
              have := hrb (x + 1) x (by omega) (by omega)
              omega
            · have := hrb (x + 1) x (by omega) hi
              omega
          · rcases hx with hx | rfl
            · obtain ⟨h1, h2⟩ := ord_mem.mp hx
              rw [u3 x (by omega), bs_get, if_neg (by omega)]
              exact t4 x h1 h2
            · exact u2
          · refine ih ρ ⟨?_, ?_, ?_, ?_, fun q hq hqm => ?_⟩
            · show (miss cm m i || (m.testBit i && (cm i).isNone)) = false
              rw [t0, hci]; simp
            · exact (hp19.tr (u1.mono (by decide) (by decide))).tr (r1.mono (by decide) (by decide))
            · rw [ord, if_pos yb, insR_len]; exact r2
            · rw [ord, if_pos yb]; exact r3
            · rw [r1.1 19 (by decide)]
              rcases (show q < i ∨ q = i by omega) with z | rfl
              · rw [u3 q (by omega), bs_get, if_neg (by omega)]
                exact t4 q z hqm
              · exact u2
