/-! THE CLASS: raising -/
theorem c_gather {S : SP} {σ : nh_S} {o o1 a3 : Nat} (ho : isG o) (ho1 : isP o1) (ha3 : shC[a3]? = some (.inl (.int, 12, none))) (hne : a3 ≠ o + 1) (hC : CRc σ o1 S) (hW : WFc S) {x : (Nat → Option Nat) × (Nat → Option (Nat × Nat))} (hK : WK σ S x) (hb : bdW S x) {kp : Nat → Nat} (hkp : ∀ p, p < sP S → σ.2.1 a3 p = nI (kp p) ∧ kp p < sH S) {fire : Nat} (hfi : fire < sH S) {Q : Option Value → nh_S → Prop}
    (hQ : ∀ τ, frC [o + 1] σ τ → (∀ p, p < sP S → τ.2.1 (o + 1) p = ot (arr S x fire (kp p))) → Q none τ) : nh_E kX5_gather 0 [some (.ref o), some (.ref o1), some (.ref 12), some (.ref a3), some (.int (nI fire)), none] [] σ Q := by
  have h12 := hW.2.1
  have h9 := hW.1
  have d1 := ho1
  unfold isP at d1
  have d0 := ho
  unfold isG at d0
  refine sg_X5_gather_0 ho ho1 ha3 _ ?_
  refine nh_loop (α := nh_S) (fun i τ => nh_E kX5_gather 3 [some (.ref o), some (.ref o1), some (.ref 12), some (.ref a3), some (.int (nI fire)), some (.int (nI i))] [] τ Q) (fun n τ => frC [o + 1] σ τ ∧ ∀ p, p < n → τ.2.1 (o + 1) p = ot (arr S x fire (kp p))) (sP S) ?_ ?_ (sP S) 0 σ (by omega) ⟨frC.rf _ _, fun p hp => by omega⟩
  · rintro τ ⟨t1, t2⟩
    have a1 : τ.1 o1 1 = nI (sP S) := by rw [(t1.1 o1 (by simp; omega)).1]; exact hC.2.1
    exact sg_X5_gather_3 ho ho1 ha3 _ _ (pk_le (sP S) (sP S) (fun _ => hQ τ t1 t2) (fun c => by omega) a1 rfl)
  · rintro i τ hi ⟨t1, t2⟩ ih
    have a1 : τ.1 o1 1 = nI (sP S) := by rw [(t1.1 o1 (by simp; omega)).1]; exact hC.2.1
    have a3v : τ.2.1 a3 i = nI (kp i) := by rw [(t1.1 a3 (by simp; omega)).2]; exact (hkp i hi).1
    have hCt : CRc τ o1 S := CRc_tr hC hW (t1.1 o1 (by simp; omega)).1 (fun k h1 h2 => (t1.1 k (by simp; omega)).2) (fun _ _ => rfl)
    have hKt : WK τ S x := by
      obtain ⟨k1, k2, k3⟩ := hK
      unfold WK
      rw [(t1.1 13 (by simp; omega)).2, (t1.1 14 (by simp; omega)).2, (t1.1 15 (by simp; omega)).2]
      exact ⟨k1, k2, k3⟩
    refine sg_X5_gather_3 ho ho1 ha3 _ _ (pk_le (sP S) i (fun c => by omega) (fun _ => ⟨pk_in i 12 (by omega), ?_⟩) a1 rfl)
    rw [pk_cl i rfl (by omega), a3v, nI_1]
    refine c_arrival ho1 hCt hW hKt hb (hkp i hi).2 hfi ⟨_, rfl, pk_in i 12 (by omega), ?_⟩
    refine ih _ ⟨t1.wa _ _ (by simp), fun p hp => ?_⟩
    rw [bs_get]
    by_cases e : p = i
    · rw [if_pos ⟨rfl, e⟩, e]
    · rw [if_neg (fun z => e z.2)]
      exact t2 p (by omega)
theorem c_countNever {S : SP} {σ : nh_S} {o : Nat} (ho : isG o) (h12 : sP S ≤ 12) {cm : Nat → Option Nat} (hcm : ∀ p, p < sP S → σ.2.1 (o + 1) p = ot (cm p)) (hb : ∀ p v, p < sP S → cm p = some v → v ≤ 1000000) {Q : Option Value → nh_S → Prop}
    (hQ : ∀ τ, frC [o + 1] σ τ → (∀ p, p < sP S → τ.2.1 (o + 1) p = ot (cm5 cm p)) → Q none τ) : nh_E kX5_countNever 0 [some (.ref o), some (.int (nI (sP S))), none] [] σ Q := by
  refine sg_X5_countNever_0 ho _ ?_
  refine nh_loop (α := nh_S) (fun i τ => nh_E kX5_countNever 2 [some (.ref o), some (.int (nI (sP S))), some (.int (nI i))] [] τ Q) (fun n τ => frC [o + 1] σ τ ∧ (∀ p, p < n → τ.2.1 (o + 1) p = ot (cm5 cm p)) ∧ ∀ p, n ≤ p → τ.2.1 (o + 1) p = σ.2.1 (o + 1) p) (sP S) ?_ ?_ (sP S) 0 σ (by omega) ⟨frC.rf _ _, fun p hp => by omega, fun _ _ => rfl⟩
  · rintro τ ⟨t1, t2, -⟩
    exact sg_X5_countNever_2 ho _ _ (pk_le (sP S) (sP S) (fun _ => hQ τ t1 t2) (fun c => by omega))
  · rintro i τ hi ⟨t1, t2, t3⟩ ih
    refine sg_X5_countNever_2 ho _ _ (pk_le (sP S) i (fun c => by omega) (fun _ => ⟨pk_in i 12 (by omega), ?_⟩))
    rw [nI_1, pk_cl i rfl (by omega), t3 i (Nat.le_refl _), hcm i hi]
    refine ih _ ⟨t1.wa _ _ (by simp), fun p hp => ?_, fun p hp => by rw [bs_get, if_neg (by omega)]; exact t3 p (by omega)⟩
    rw [bs_get]
    by_cases e : p = i
    · rw [if_pos ⟨rfl, e⟩, e]
      unfold cm5
      cases hc : cm i with
      | none => rfl
      | some v => rw [if_neg (ot_m1 (by have := hb i v hi hc; omega))]; rfl
    · rw [if_neg (fun z => e z.2)]
      exact t2 p (by omega)
theorem c_queueUp {σ : nh_S} {o : Nat} (ho : isG o) {r : Nat → Nat} {L : List Nat} {p : Nat} (hlen : L.length ≤ 11) (hp : p < 12) (hL : ∀ x ∈ L, x < 12) (hr : ∀ x, x ∈ L ∨ x = p → r x < 2 ^ 31) (hrd : ∀ x, x ∈ L ∨ x = p → σ.2.1 (o + 3) x = nI (r x)) (hct : σ.1 o 2 = nI L.length) (hod : ∀ j b, L[j]? = some b → σ.2.1 (o + 2) j = nI b) {Q : Option Value → nh_S → Prop}
    (hK : ∀ υ, frC [o, o + 2] σ υ → υ.1 o 2 = nI (L.length + 1) → υ.1 o 3 = σ.1 o 3 → (∀ j b, (insR r p L)[j]? = some b → υ.2.1 (o + 2) j = nI b) → Q none υ) :
    nh_E kX5_queueUp 0 [some (.ref o), some (.int (nI p)), none] [] σ Q := by
  have d0 := ho
  unfold isG at d0
  have put : ∀ (k : Nat) (τ : nh_S), k ≤ L.length → ik r (r p) L L.length = k → frC [o + 2] σ τ → (∀ j b, j < k → L[j]? = some b → τ.2.1 (o + 2) j = nI b) → (∀ j b, k ≤ j → L[j]? = some b → τ.2.1 (o + 2) (j + 1) = nI b) → vp_in (nI k) 12 ∧ Q none (nh_si (nh_wa τ (o + 2) (nI k).toNatClampNeg (nI p)) o 2 ((τ.1 o 2) + 1)) := by
    intro k τ hk hik hf h1 h2
    refine ⟨pk_in k 12 (by omega), ?_⟩
    rw [pk_cl k rfl (by omega), (hf.1 o (by simp)).1, hct, nI_1]
    refine hK _ (((hf.mono (by simp)).wa _ _ (by simp)).si _ _ (by simp)) (by rw [bs_geti, if_pos ⟨rfl, rfl⟩]) (by rw [bs_geti, if_neg (by omega), bs_wa1, (hf.1 o (by simp)).1]) (fun j b hjb => ?_)
    show (nh_wa τ (o + 2) k (nI p)).2.1 (o + 2) j = nI b
    rw [bs_get]
    unfold insR at hjb
    rw [hik] at hjb
    have hlk : (L.take k).length = k := by rw [List.length_take]; omega
    rcases Nat.lt_trichotomy j k with q | q | q
    · rw [if_neg (by omega)]
      rw [List.getElem?_append_left (by omega), List.getElem?_take_of_lt q] at hjb
      exact h1 j b q hjb
    · subst q
      rw [if_pos ⟨rfl, rfl⟩]
      rw [List.getElem?_append_right (by omega), hlk, Nat.sub_self] at hjb
      simp at hjb
      rw [hjb]
    · rw [if_neg (by omega)]
      rw [List.getElem?_append_right (by omega), hlk] at hjb
      obtain ⟨d, rfl⟩ : ∃ d, j = k + (d + 1) := ⟨j - k - 1, by omega⟩
      rw [show k + (d + 1) - k = d + 1 by omega, List.getElem?_cons_succ, List.getElem?_drop] at hjb
      exact h2 (k + d) b (by omega) hjb
  have main : ∀ (k : Nat) (τ : nh_S), k ≤ L.length → ik r (r p) L L.length = ik r (r p) L k → frC [o + 2] σ τ → (∀ j b, j < k → L[j]? = some b → τ.2.1 (o + 2) j = nI b) → (∀ j b, k ≤ j → L[j]? = some b → τ.2.1 (o + 2) (j + 1) = nI b) → nh_E kX5_queueUp 15 [some (.ref o), some (.int (nI p)), some (.int (nI k))] [] τ Q := by
    intro k
    induction k with
    | zero =>
      intro τ hk hik hf h1 h2
      refine sg_X5_queueUp_15 ho _ _ (pk_le 0 0 (fun _ => ?_) (fun c => by omega))
      exact put 0 τ hk hik hf h1 h2
    | succ k ih =>
      intro τ hk hik hf h1 h2
      obtain ⟨b, hb⟩ : ∃ b, L[k]? = some b := ⟨_, List.getElem?_eq_getElem (by omega)⟩
      have hbL : b ∈ L := List.mem_of_getElem? hb
      have hb12 := hL b hbL
      have a20 : τ.2.1 (o + 2) k = nI b := h1 k b (by omega) hb
      have a19 : τ.2.1 (o + 3) b = nI (r b) := by rw [(hf.1 (o + 3) (by simp)).2]; exact hrd b (Or.inl hbL)
      have a19p : τ.2.1 (o + 3) p = nI (r p) := by rw [(hf.1 (o + 3) (by simp)).2]; exact hrd p (Or.inr rfl)
      have hgd : L.getD k 0 = b := by rw [List.getD_eq_getElem?_getD, hb]; rfl
      refine sg_X5_queueUp_15 ho _ _ (pk_le (k + 1) 0 (fun c => by omega) (fun c => ?_))
      rw [nI_pred, pk_cl k rfl (by omega), a20, pk_cl b rfl (by omega), a19, pk_cl p rfl (by omega), a19p]
      refine ⟨pk_in k 12 (by omega), pk_in b 12 (by omega), pk_in p 12 hp, ?_⟩
      refine pk_le (r b) (r p) (fun c2 => ?_) (fun c2 => ?_) rfl rfl (hr b (Or.inl hbL)) (hr p (Or.inr rfl))
      · refine put (k + 1) τ hk ?_ hf h1 h2
        rw [hik, ik, hgd, if_neg (by omega)]
      · refine ⟨pk_in (k + 1) 12 (by omega), ?_⟩
        rw [pk_m1, pk_cl (k + 1) rfl (by omega)]
        refine ih _ (by omega) (by rw [hik, ik, hgd, if_pos c2]) (hf.wa _ _ (by simp)) (fun j x hj hx => ?_) (fun j x hj hx => ?_)
        · rw [bs_get, if_neg (by omega)]
          exact h1 j x (by omega) hx
        · rw [bs_get]
          rcases (show j = k ∨ k < j by omega) with q | q
          · subst q
            rw [if_pos ⟨rfl, rfl⟩]
            rw [hb] at hx
            cases hx
            rfl
          · rw [if_neg (by omega)]
            exact h2 j x (by omega) hx
  refine sg_X5_queueUp_0 ho _ ?_
  rw [hct]
  refine pk_lt L.length 12 (fun _ => ?_) (fun c => by omega)
  exact main L.length σ (Nat.le_refl _) rfl (frC.rf _ _) (fun j b _ hjb => hod j b hjb) (fun j b hj hjb => by have := (List.getElem?_eq_some_iff.mp hjb).1; omega)
theorem c_makeReady {S : SP} {σ : nh_S} {o o1 : Nat} (ho : isG o) (ho1 : isP o1) (hC : CRc σ o1 S) (hW : WFc S) {c : Nat → Nat} {p : Nat} (hp : p < sP S) (hcb : ∀ q, q < sP S → c q ≤ 1000000) (hrd : ∀ q, q < p → (sBe S p).testBit q = true → σ.2.1 (o + 3) q = nI (rdy S c q)) (h0 : σ.2.1 (o + 1) p = nI (c p)) {Q : Option Value → nh_S → Prop}
    (hK : Q none (nh_wa σ (o + 3) p (nI (rdy S c p)))) :
    nh_E kX5_makeReady 0 [some (.ref o), some (.ref o1), some (.int (nI p)), none, none] [] σ Q := by
  have h12 := hW.2.1
  have hbe := (hW.2.2.1 p hp).2.2
  have hpw : 2 ^ p ≤ 2 ^ 12 := pw_le (by omega)
  have hrb := rdy_le (S := S) (c := c) hcb (fun q hq => (hW.2.2.1 q hq).1)
  have hqb : ∀ n, n ≤ p → rq S (rdy S c) p (c p) n ≤ 1000800 := fun n hn => rq_le (by have := hcb p hp; omega) (fun q hq _ => by have := hrb (q + 1) q (by omega) (by omega); have := (hW.2.2.1 q (by omega)).1; omega) hn
  refine sg_X5_makeReady_0 ho ho1 _ ⟨pk_in p 12 (by omega), ?_⟩
  rw [pk_cl p rfl (by omega), h0]
  refine nh_loop (α := Unit) (fun i _ => nh_E kX5_makeReady 10 [some (.ref o), some (.ref o1), some (.int (nI p)), some (.int (nI (rq S (rdy S c) p (c p) i))), some (.int (nI i))] [] σ Q) (fun _ _ => True) p ?_ ?_ p 0 () (by omega) trivial
  · intro _ _
    refine sg_X5_makeReady_10 ho ho1 _ _ _ (pk_le p p (fun _ => ⟨pk_in p 12 (by omega), ?_⟩) (fun c => by omega))
    rw [pk_cl p rfl (by omega), ← rdy_eq]
    exact hK
  · intro i _ hi _ ih
    have ih := ih () trivial
    have a8 : σ.2.1 (o1 + 21) p = nI (sBe S p) := (hC.2.2.1 p hp).2.2
    have a6 : σ.2.1 (o1 + 19) i = nI (sMi S i) := (hC.2.2.1 i (by omega)).1
    have hmi := (hW.2.2.1 i (by omega)).1
    have hri := hrb (i + 1) i (by omega) (by omega)
    have hqi := hqb i (by omega)
    refine sg_X5_makeReady_10 ho ho1 _ _ _ (pk_le p i (fun c9 => by omega) (fun c9 => ⟨pk_in p 12 (by omega), ?_⟩))
    rw [pk_cl p rfl (by omega), pk_cl i rfl (by omega), a8, a6, nI_1, bs_hs (by omega) (by omega)]
    rw [rq] at ih
    refine ⟨fun e => ?_, fun e => ⟨pk_in i 12 (by omega), ?_⟩⟩
    · rw [if_neg (fun z => e z.1)] at ih
      exact ih
    · rw [hrd i (by omega) e, nI_add]
      by_cases e2 : rq S (rdy S c) p (c p) i < rdy S c i + sMi S i
      · rw [if_pos ⟨e, e2⟩] at ih
        rw [if_pos (by rw [nI_ltI (by omega) (by omega)]; exact e2)]
        exact ih
      · rw [if_neg (fun z => e2 z.2)] at ih
        rw [if_neg (by rw [nI_ltI (by omega) (by omega)]; exact e2)]
        exact ih
/-- what is known behind Raising.run -/
def pinC (S : SP) (cm : Nat → Option Nat) (m : Nat) (τ : nh_S) (o : Nat) : Prop := τ.1 o 2 = nI (ord S (cmN cm) m (sP S)).length ∧ (∀ k p, (ord S (cmN cm) m (sP S))[k]? = some p → τ.2.1 (o + 2) k = nI p) ∧ τ.1 o 3 = ot (wtd S (cmN cm) (ord S (cmN cm) m (sP S)) (ord S (cmN cm) m (sP S)).length)
set_option maxHeartbeats 1000000 in
theorem c_raise {S : SP} {σ : nh_S} {o o1 : Nat} (ho : isG o) (ho1 : isP o1) (hC : CRc σ o1 S) (hW : WFc S) {m : Nat} (hm : m < 2 ^ 31) {cm : Nat → Option Nat} (h18 : ∀ p, p < sP S → σ.2.1 (o + 1) p = ot (cm p)) (hb : ∀ p v, p < sP S → cm p = some v → v ≤ 1000000) (hclo : clo S m) {Q : Option Value → nh_S → Prop}
    (hQ : ∀ τ, frC [o, o + 2, o + 3] σ τ → (stO S cm m ≠ none → pinC S cm m τ o) → (stO S cm m = none → τ.1 o 3 = -1) → Q (some (.int (ot (stO S cm m)))) τ) : nh_E kX5_run 0 [some (.ref o), some (.ref o1), some (.int (nI m)), none] [] σ Q := by
  have h12 := hW.2.1
  have d0 := ho
  unfold isG at d0
  have d1 := ho1
  unfold isP at d1
  have hcb := cm_bd hb
  have hrb := rdy_le (S := S) (c := cmN cm) hcb (fun q hq => (hW.2.2.1 q hq).1)
  have hol := ord_len S (cmN cm) m
  have hmi : ∀ p ∈ ord S (cmN cm) m (sP S), sMi S p ≤ 60 := fun p hp => (hW.2.2.1 p (ord_mem.mp hp).1).1
  have hsb := stT_le (S := S) (c := cmN cm) (L := ord S (cmN cm) m (sP S)) (B := 1000000) (fun p hp => hcb p (ord_mem.mp hp).1) hmi
  have fr_o : ∀ {τ : nh_S}, frC [o, o + 2, o + 3] σ τ → CRc τ o1 S := fun {τ} hfr => CRc_tr hC hW (hfr.1 o1 (by simp; omega)).1 (fun k h1 h2 => (hfr.1 k (by simp; omega)).2) (fun _ _ => rfl)
  refine sg_X5_run_0 ho ho1 _ ?_
  have second : miss cm m (sP S) = false → ∀ τ, frC [o, o + 2, o + 3] σ τ → τ.1 o 2 = nI (ord S (cmN cm) m (sP S)).length → τ.1 o 3 = -1 → (∀ k p, (ord S (cmN cm) m (sP S))[k]? = some p → τ.2.1 (o + 2) k = nI p) → nh_E kX5_putAll 0 [some (.ref o), some (.ref o1), none, none, none] [] τ (nh_qi fun r3 τ2 => Q (some (.int r3)) τ2) := by
    intro hmiss τ hτ h31 hw3 h20
    have est : stO S cm m = some (stT S (cmN cm) (ord S (cmN cm) m (sP S))) := by unfold stO; rw [if_neg (by rw [hmiss]; decide)]
    refine sg_X5_putAll_0 ho ho1 ?_
    refine nh_loop (α := nh_S) (fun i υ => nh_E kX5_putAll 4 [some (.ref o), some (.ref o1), some (.int (nI (stT S (cmN cm) ((ord S (cmN cm) m (sP S)).take i)))), some (.int (nI i)), none] [] υ (nh_qi fun r3 τ2 => Q (some (.int r3)) τ2)) (fun n υ => frC [o] τ υ ∧ υ.1 o 2 = τ.1 o 2 ∧ υ.1 o 3 = ot (wtd S (cmN cm) (ord S (cmN cm) m (sP S)) n)) (ord S (cmN cm) m (sP S)).length ?_ ?_ (ord S (cmN cm) m (sP S)).length 0 τ (by omega) ⟨frC.rf _ _, rfl, hw3⟩
    · rintro υ ⟨u1, u2, u3⟩
      have := hol (sP S)
      refine sg_X5_putAll_4 ho ho1 _ _ (pk_le (ord S (cmN cm) m (sP S)).length (ord S (cmN cm) m (sP S)).length (fun _ => ⟨_, rfl, ?_⟩) (fun c => by omega) (by rw [u2]; exact h31) rfl)
      rw [List.take_length]
      have h := hQ υ (hτ.tr (u1.mono (by simp))) (fun _ => ⟨by rw [u2]; exact h31, fun k p hk => by rw [(u1.1 (o + 2) (by simp)).2]; exact h20 k p hk, u3⟩) (fun q => by rw [est] at q; cases q)
      rw [est] at h
      exact h
    · rintro i υ hi ⟨u1, u2, u3⟩ ih
      obtain ⟨p, hp⟩ : ∃ p, (ord S (cmN cm) m (sP S))[i]? = some p := ⟨_, List.getElem?_eq_getElem hi⟩
      have hpm := ord_mem.mp (List.mem_of_getElem? hp)
      have := hol (sP S)
      have a20 : υ.2.1 (o + 2) i = nI p := by rw [(u1.1 (o + 2) (by simp)).2]; exact h20 i p hp
      have hcp : ∃ v, cm p = some v := by
        cases q : cm p with
        | some v => exact ⟨v, rfl⟩
        | none =>
          exfalso
          have h1 : miss cm m (p + 1) = true := by
            show (miss cm m p || (m.testBit p && (cm p).isNone)) = true
            rw [q, hpm.2]
            simp
          have h2 := miss_mono (k := sP S - (p + 1)) h1
          rw [show p + 1 + (sP S - (p + 1)) = sP S by omega, hmiss] at h2
          cases h2
      obtain ⟨v, hv⟩ := hcp
      have hcv : cmN cm p = v := by unfold cmN; rw [hv]; rfl
      have a18 : υ.2.1 (o + 1) p = nI (cmN cm p) := by
        rw [(u1.1 (o + 1) (by simp)).2, (hτ.1 (o + 1) (by simp)).2, h18 p hpm.1, hv, hcv]; rfl
      have a6 : υ.2.1 (o1 + 19) p = nI (sMi S p) := by rw [(u1.1 (o1 + 19) (by simp; omega)).2, (hτ.1 (o1 + 19) (by simp; omega)).2]; exact (hC.2.2.1 p hpm.1).1
      have hc1 := hcb p hpm.1
      have hs1 := hsb i
      rw [stT_take hp] at ih
      have ew : wtd S (cmN cm) (ord S (cmN cm) m (sP S)) (i + 1) = if i = 0 ∨ stT S (cmN cm) ((ord S (cmN cm) m (sP S)).take i) < cmN cm p then some p else wtd S (cmN cm) (ord S (cmN cm) m (sP S)) i := by rw [wtd, hp]
      rw [ew] at ih
      have step : (i = 0 ∨ stT S (cmN cm) ((ord S (cmN cm) m (sP S)).take i) < cmN cm p) → nh_E kX5_putAll 4 [some (.ref o), some (.ref o1), some (.int (nI (cmN cm p + sMi S p))), some (.int (nI (i + 1))), none] [] (nh_si υ o 3 (nI p)) (nh_qi fun r3 τ2 => Q (some (.int r3)) τ2) := by
        intro hc
        rw [if_pos hc] at ih
        have e : (if stT S (cmN cm) ((ord S (cmN cm) m (sP S)).take i) < cmN cm p then cmN cm p else stT S (cmN cm) ((ord S (cmN cm) m (sP S)).take i)) = cmN cm p := by
          rcases hc with rfl | hc
          · rw [List.take_zero]
            show (if 0 < cmN cm p then cmN cm p else 0) = _
            split <;> omega
          · rw [if_pos hc]
        rw [e] at ih
        exact ih _ ⟨u1.si _ _ (by simp), by rw [bs_geti, if_neg (by omega)]; exact u2, by rw [bs_geti, if_pos ⟨rfl, rfl⟩]; rfl⟩
      refine sg_X5_putAll_4 ho ho1 _ _ (pk_le (ord S (cmN cm) m (sP S)).length i (fun c => by omega) (fun c => ⟨pk_in i 12 (by omega), ?_⟩) (by rw [u2]; exact h31) rfl)
      rw [pk_cl i rfl (by omega), a20, pk_cl p rfl (by omega), a18, a6, nI_1, nI_add, nI_add]
      refine ⟨fun c0 => ⟨pk_in p 12 (by omega), ?_⟩, fun c0 => ⟨pk_in p 12 (by omega), pk_le (cmN cm p) (stT S (cmN cm) ((ord S (cmN cm) m (sP S)).take i)) (fun c1 => ?_) (fun c1 => ?_)⟩⟩
      · exact step (Or.inl ((nI_eq (by omega) (by omega)).mp c0))
      · have hi0 : i ≠ 0 := fun q => c0 (by rw [q]; rfl)
        rw [if_neg (by omega), if_neg (by omega)] at ih
        exact ih υ ⟨u1, u2, u3⟩
      · exact step (Or.inr c1)
  refine nh_loop (α := nh_S) (fun i τ => nh_E kX5_run 12 [some (.ref o), some (.ref o1), some (.int (nI m)), some (.int (nI i))] [] τ Q) (fun n τ => miss cm m n = false ∧ frC [o, o + 2, o + 3] σ τ ∧ τ.1 o 2 = nI (ord S (cmN cm) m n).length ∧ τ.1 o 3 = -1 ∧ (∀ k p, (ord S (cmN cm) m n)[k]? = some p → τ.2.1 (o + 2) k = nI p) ∧ ∀ q, q < n → m.testBit q = true → τ.2.1 (o + 3) q = nI (rdy S (cmN cm) q)) (sP S) ?_ ?_ (sP S) 0 _ (by omega) ⟨rfl, ((frC.rf _ _).si _ _ (by simp)).si _ _ (by simp), by rw [bs_geti, if_neg (by omega), bs_geti, if_pos ⟨rfl, rfl⟩]; rfl, by rw [bs_geti, if_pos ⟨rfl, rfl⟩], fun k p h => by simp [ord] at h, fun q hq => by omega⟩
  · rintro τ ⟨t0, t1, t2, t2b, t3, t4⟩
    exact sg_X5_run_12 ho ho1 _ _ (pk_le (sP S) (sP S) (fun _ => second t0 τ t1 t2 t2b t3) (fun c => by omega) (fr_o t1).2.1 rfl)
  · rintro i τ hi ⟨t0, t1, t2, t2b, t3, t4⟩ ih
    have a18 : τ.2.1 (o + 1) i = ot (cm i) := by rw [(t1.1 (o + 1) (by simp)).2]; exact h18 i hi
    refine sg_X5_run_12 ho ho1 _ _ (pk_le (sP S) i (fun c => by omega) (fun c => ?_) (fr_o t1).2.1 rfl)
    rw [pk_cl i rfl (by omega), a18, nI_1, bs_hs hm (by omega)]
    refine ⟨fun nb => ?_, fun yb => ⟨pk_in i 12 (by omega), ?_⟩⟩
    · have nb2 : m.testBit i = false := by simpa using nb
      refine ih τ ⟨?_, t1, ?_, t2b, ?_, fun q hq hqm => ?_⟩
      · show (miss cm m i || (m.testBit i && (cm i).isNone)) = false
        rw [t0, nb2]; rfl
      · rw [ord, if_neg nb]; exact t2
      · rw [ord, if_neg nb]; exact t3
      · rcases (show q < i ∨ q = i by omega) with z | rfl
        · exact t4 q z hqm
        · exact absurd hqm nb
    · cases hci : cm i with
      | none =>
        refine ⟨fun q => absurd rfl q, fun _ => ?_⟩
        have hms : miss cm m (sP S) = true := by
          have h1 : miss cm m (i + 1) = true := by
            show (miss cm m i || (m.testBit i && (cm i).isNone)) = true
            rw [hci, yb]; simp
          have h2 := miss_mono (k := sP S - (i + 1)) h1
          rw [show i + 1 + (sP S - (i + 1)) = sP S by omega] at h2
          exact h2
        have est : stO S cm m = none := by unfold stO; rw [if_pos hms]
        have h := hQ τ t1 (fun q => absurd est q) (fun _ => t2b)
        rw [est] at h
        exact h
      | some v =>
        have hvb := hb i v hi hci
        have hcv : cmN cm i = v := by unfold cmN; rw [hci]; rfl
        refine ⟨fun _ => ?_, fun q => absurd q (ot_m1 (by omega))⟩
        refine c_makeReady ho ho1 (fr_o t1) hW (c := cmN cm) hi hcb (fun q hq hbq => t4 q hq (hclo i hi yb q hbq)) (by rw [a18, hci, hcv]; rfl) ⟨rfl, ?_⟩
        have := hol i
        have f1 : frC [o, o + 2, o + 3] σ (nh_wa τ (o + 3) i (nI (rdy S (cmN cm) i))) := t1.wa _ _ (by simp)
        have g2 : (nh_wa τ (o + 3) i (nI (rdy S (cmN cm) i))).1 o 2 = nI (ord S (cmN cm) m i).length := by rw [bs_wa1]; exact t2
        have g3 : (nh_wa τ (o + 3) i (nI (rdy S (cmN cm) i))).1 o 3 = -1 := by rw [bs_wa1]; exact t2b
        have g4 : ∀ k p, (ord S (cmN cm) m i)[k]? = some p → (nh_wa τ (o + 3) i (nI (rdy S (cmN cm) i))).2.1 (o + 2) k = nI p := fun j b hjb => by rw [wa_ne _ _ _ (by omega)]; exact t3 j b hjb
        have g5 : ∀ q, q < i + 1 → m.testBit q = true → (nh_wa τ (o + 3) i (nI (rdy S (cmN cm) i))).2.1 (o + 3) q = nI (rdy S (cmN cm) q) := fun q hq hqm => by
          rw [bs_get]
          rcases (show q < i ∨ q = i by omega) with z | rfl
          · rw [if_neg (by omega)]
            exact t4 q z hqm
          · rw [if_pos ⟨rfl, rfl⟩]
        generalize nh_wa τ (o + 3) i (nI (rdy S (cmN cm) i)) = τ2 at f1 g2 g3 g4 g5
        have hlL : (ord S (cmN cm) m i).length ≤ 11 := by omega
        have hxL : ∀ x ∈ ord S (cmN cm) m i, x < 12 := fun x hx => by have := (ord_mem.mp hx).1; omega
        have hrL : ∀ x, x ∈ ord S (cmN cm) m i ∨ x = i → rdy S (cmN cm) x < 2 ^ 31 := by
          intro x hx
          rcases hx with hx | rfl
          · have h1 := (ord_mem.mp hx).1
            have := hrb (x + 1) x (by omega) (by omega)
            omega
          · have := hrb (x + 1) x (by omega) hi
            omega
        have hdL : ∀ x, x ∈ ord S (cmN cm) m i ∨ x = i → τ2.2.1 (o + 3) x = nI (rdy S (cmN cm) x) := by
          intro x hx
          rcases hx with hx | rfl
          · obtain ⟨h1, h2⟩ := ord_mem.mp hx
            exact g5 x (by omega) h2
          · exact g5 x (by omega) yb
        refine c_queueUp ho hlL (by omega) hxL hrL hdL g2 g4 (fun ρ r1 r2 r2b r3 => ⟨rfl, ?_⟩)
        refine ih ρ ⟨?_, ?_, ?_, ?_, ?_, fun q hq hqm => ?_⟩
        · show (miss cm m i || (m.testBit i && (cm i).isNone)) = false
          rw [t0, hci]; simp
        · exact f1.tr (r1.mono (by simp))
        · rw [ord, if_pos yb, insR_len]; exact r2
        · rw [r2b]; exact g3
        · rw [ord, if_pos yb]; exact r3
        · rw [(r1.1 (o + 3) (by simp)).2]
          exact g5 q hq hqm
