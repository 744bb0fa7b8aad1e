/-! THE REFERENCE: logs, images, reach, needed -/
theorem lgm_up {S : SP} (p m : Nat) (hp : p < sP S) : lgm (sUp S 15 p 0 (m + 1)) = lgm S ||| 2 ^ p := by
  apply bs_ext
  intro i
  rw [Nat.testBit_or, Nat.testBit_two_pow]
  unfold lgm
  rw [mk_bit, mk_bit]
  show (decide (i < sP S) && decide (sUp S 15 p 0 (m + 1) 15 i 0 ≠ 0)) = _
  rw [sUp_at]
  by_cases e : i = p
  · subst e
    simp [hp]
  · rw [if_neg (fun z => e z.1)]
    simp [show ¬ p = i from fun z => e z.symm]
def nLog (S : SP) (x y : Int32) : SP := match ix x (sP S), ix y 1000 with
  | some p, some m => sUp S 15 p 0 (m + 1)
  | _, _ => S
def aLog (S : SP) (x y : Int32) : Int32 := match ix x (sP S) with
  | none => -1000001
  | some _ => match ix y 1000 with
    | none => -1000002
    | some _ => nI (pop (lgm (nLog S x y)))
theorem r_log {S : SP} {σ : nh_S} (hR : RR σ S) (hW : WF S) (x y : Int32) {Q : Option Value → nh_S → Prop} (hQ : ∀ τ, RR τ (nLog S x y) → Q (some (.int (aLog S x y))) τ) : nh_E kX9_log 0 [some (.ref 0), some (.int x), some (.int y)] [] σ Q := by
  have h12 := hW.1.2.1
  have hlt := lgm_lt hW
  unfold aLog nLog at hQ
  refine sg_X9_log_0 x y ?_
  rw [hR.1.2.1, ix_ref (by omega), show (999 : Int32) = nI 999 from rfl, ix_lit (by omega)]
  rcases ix_cases x (n := sP S) (by omega) with ⟨p, hp, rfl, e⟩ | ⟨e, hx⟩
  · refine ⟨fun _ => ?_, fun c => absurd ⟨p, hp, rfl⟩ c⟩
    rcases ix_cases y (n := 1000) (by omega) with ⟨m, hm, rfl, e2⟩ | ⟨e2, hy⟩
    · rw [e, e2] at hQ
      refine ⟨fun _ => ⟨pk_in p 12 (by omega), ?_⟩, fun z => absurd ⟨m, by omega, rfl⟩ z⟩
      have hpw : 2 ^ p < 2 ^ 12 := Nat.pow_lt_pow_right (by omega) (by omega)
      have el : (nI (lgm S) ||| (1 : Int32) <<< (nI p &&& 31)) = nI (lgm S ||| 2 ^ p) := by rw [bs_shl (by omega), fa_or]
      have hor : lgm S ||| 2 ^ p < 2 ^ 12 := Nat.or_lt_two_pow (by omega) hpw
      rw [pk_cl p rfl (by omega), hR.2.2.2.1.2.2.1, el]
      refine r_ones (by omega) ⟨_, rfl, ?_⟩
      dsimp only at hQ
      rw [lgm_up p m hp] at hQ
      refine hQ _ (RR_x hR h12 ?_ (fun k _ hk => ?_) (fun j _ hj => ?_) (fun t ht => sUp_ne S (fun q => ht (by rw [q]; decide)) p 0 _))
      · obtain ⟨g1, g2, g3, g4⟩ := hR.2.2.2.1
        refine ⟨fun q hq => ?_, ?_, ?_, fun q hq h0 => ?_⟩
        · rw [wa_ne _ _ _ (show 12 ≠ 26 by decide)]
          exact g1 q hq
        · rw [bs_wa1, si_ne σ 0 37 _ (show 14 ≠ 37 by decide)]
          exact g2
        · rw [bs_wa1, bs_geti, if_pos ⟨rfl, rfl⟩, lgm_up p m hp]
        · rw [bs_get]
          have h0 : sUp S 15 p 0 (m + 1) 15 q 0 ≠ 0 := h0
          show _ = nI (sUp S 15 p 0 (m + 1) 15 q 0 - 1)
          rw [sUp_at] at h0 ⊢
          by_cases e : q = p
          · rw [if_pos ⟨rfl, e⟩, if_pos ⟨e, rfl⟩]
            rfl
          · rw [if_neg (fun z => e z.1)] at h0
            rw [if_neg (fun z => e z.2), if_neg (fun z => e z.1)]
            exact g4 q hq h0
      · exact wa_ne _ _ _ hk
      · rw [bs_wa1, si_ne σ 0 37 _ hj]
    · rw [e, e2] at hQ
      exact ⟨fun ⟨h, hh, q⟩ => absurd q (hy h (by omega)), fun _ => hQ _ hR⟩
  · rw [e] at hQ
    exact ⟨fun ⟨h, hh, q⟩ => absurd q (hx h hh), fun _ => hQ _ hR⟩
def nClear (S : SP) : SP := sTag S 15 (fun _ _ => 0)
theorem r_clear {S : SP} {σ : nh_S} (hR : RR σ S) (hW : WF S) {Q : Option Value → nh_S → Prop} (hQ : ∀ τ, RR τ (nClear S) → Q (some (.int (nI (pop (lgm S))))) τ) : nh_E kX9_clear 0 [some (.ref 0), none] [] σ Q := by
  have hlt := lgm_lt hW
  refine sg_X9_clear_0 ?_
  rw [hR.2.2.2.1.2.2.1]
  refine r_ones (by omega) ⟨_, rfl, ?_⟩
  refine hQ _ (RR_x hR hW.1.2.1 ?_ (fun _ _ _ => rfl) (fun j _ hj => si_ne σ 0 37 _ hj) (fun t ht => sTag_ne S (fun q => ht (by rw [q]; decide)) _))
  obtain ⟨g1, g2, g3, g4⟩ := hR.2.2.2.1
  refine ⟨g1, ?_, ?_, fun q hq h0 => absurd (show sTag S 15 (fun _ _ => 0) 15 q 0 = 0 by rw [sTag_at]) h0⟩
  · rw [si_ne σ 0 37 _ (show 14 ≠ 37 by decide)]
    exact g2
  · rw [bs_geti, if_pos ⟨rfl, rfl⟩]
    show nI 0 = _
    congr 1
    apply bs_ext
    intro i
    unfold lgm nClear
    rw [mk_bit, Nat.zero_testBit, show sLg (sTag S 15 fun _ _ => 0) i = 0 by show sTag S 15 (fun _ _ => 0) 15 i 0 = 0; rw [sTag_at]]
    simp
/-- copy: 26 places of the movable row, from a to b -/
theorem r_copy {a b : Nat} (ha : a + 26 ≤ 78) (hb : b + 26 ≤ 78) (hab : a + 26 ≤ b ∨ b + 26 ≤ a) {σ : nh_S} {Q : Option Value → nh_S → Prop}
    (hQ : ∀ τ : nh_S, τ.1 = σ.1 → (∀ k, k ≠ 1 → τ.2.1 k = σ.2.1 k) → (∀ i, i < 26 → τ.2.1 1 (b + i) = σ.2.1 1 (a + i)) → (∀ i, i < b ∨ b + 26 ≤ i → τ.2.1 1 i = σ.2.1 1 i) → Q none τ) : nh_E kX9_copy 0 [some (.ref 0), some (.int (nI a)), some (.int (nI b)), none] [] σ Q := by
  refine sg_X9_copy_0 _ _ ?_
  refine nh_loop (α := nh_S) (fun i τ => nh_E kX9_copy 2 [some (.ref 0), some (.int (nI a)), some (.int (nI b)), some (.int (nI i))] [] τ Q) (fun n τ => τ.1 = σ.1 ∧ (∀ k, k ≠ 1 → τ.2.1 k = σ.2.1 k) ∧ (∀ i, i < n → τ.2.1 1 (b + i) = σ.2.1 1 (a + i)) ∧ (∀ i, i < b ∨ b + n ≤ i → τ.2.1 1 i = σ.2.1 1 i)) 26 ?_ ?_ 26 0 σ rfl ⟨rfl, fun _ _ => rfl, fun i hi => by omega, fun _ _ => rfl⟩
  · rintro τ ⟨h1, h2, h3, h4⟩
    exact sg_X9_copy_2 _ _ _ (pk_le 26 26 (fun _ => hQ τ h1 h2 h3 h4) (fun c => by omega))
  · rintro i τ hi ⟨h1, h2, h3, h4⟩ ih
    refine sg_X9_copy_2 _ _ _ (pk_le 26 i (fun c => by omega) (fun c => ?_))
    rw [nI_add, nI_add, nI_1]
    refine ⟨pk_in (a + i) 78 (by omega), pk_in (b + i) 78 (by omega), ?_⟩
    rw [pk_cl (a + i) rfl (by omega), pk_cl (b + i) rfl (by omega)]
    refine ih _ ⟨h1, fun k hk => ?_, fun j hj => ?_, fun j hj => ?_⟩
    · rw [wa_ne _ _ _ hk]
      exact h2 k hk
    · rw [bs_get]
      by_cases e : j = i
      · subst e
        rw [if_pos ⟨rfl, rfl⟩]
        exact h4 _ (by omega)
      · rw [if_neg (by omega)]
        exact h3 j (by omega)
    · rw [bs_get, if_neg (by omega)]
      exact h4 j (by omega)
def nKeep (S : SP) (x : Int32) : SP := match ix x 2 with
  | none => S
  | some i => fun t a b => if t = 22 ∧ a = i ∧ b = 0 then 1 else if t = 23 ∧ a = i then S 9 b 0 else if t = 24 ∧ a = i then S 10 b 0 else if t = 25 ∧ a = i ∧ b = 0 then S 11 0 0 else if t = 26 ∧ a = i ∧ b = 0 then S 12 0 0 else S t a b
def aKeep (x : Int32) : Int32 := match ix x 2 with
  | none => -1000001
  | some _ => 1
theorem r_keep {S : SP} {σ : nh_S} (hR : RR σ S) (hW : WF S) (x : Int32) {Q : Option Value → nh_S → Prop} (hQ : ∀ τ, RR τ (nKeep S x) → Q (some (.int (aKeep x))) τ) : nh_E kX9_keep 0 [some (.ref 0), some (.int x)] [] σ Q := by
  have h12 := hW.1.2.1
  unfold nKeep aKeep at hQ
  refine sg_X9_keep_0 x ?_
  rw [show (1 : Int32) = nI 1 from rfl, ix_lit (by omega)]
  rcases ix_cases x (n := 2) (by omega) with ⟨i, hi, rfl, e⟩ | ⟨e, hx⟩
  · rw [e] at hQ
    refine ⟨fun _ => ?_, fun c => absurd ⟨i, by omega, rfl⟩ c⟩
    rw [nI_add, show (26 : Int32) = nI 26 from rfl, pk_mul]
    refine r_copy (a := 0) (b := 26 * (i + 1)) (by omega) (by omega) (by omega) (fun τ t1 t2 t3 t4 => ⟨rfl, pk_in i 2 hi, ?_⟩)
    rw [pk_cl i rfl (by omega)]
    refine hQ _ ?_
    obtain ⟨h1, h2, h3, h4, h5, h6⟩ := hR
    have w : ∀ k, k ≠ 1 → k ≠ 2 → (nh_wa τ 2 i (vp_nar .boolean (nI 1))).2.1 k = σ.2.1 k := fun k hk hk2 => by rw [wa_ne _ _ _ hk2]; exact t2 k hk
    have w1 : (nh_wa τ 2 i (vp_nar .boolean (nI 1))).2.1 1 = τ.2.1 1 := wa_ne _ _ _ (by decide)
    have wi : (nh_wa τ 2 i (vp_nar .boolean (nI 1))).1 = σ.1 := t1
    have ht : ∀ t, t ∉ [22, 23, 24, 25, 26] → (fun a b => if t = 22 ∧ a = i ∧ b = 0 then 1 else if t = 23 ∧ a = i then S 9 b 0 else if t = 24 ∧ a = i then S 10 b 0 else if t = 25 ∧ a = i ∧ b = 0 then S 11 0 0 else if t = 26 ∧ a = i ∧ b = 0 then S 12 0 0 else S t a b) = S t := by
      intro t ht
      funext a b
      simp at ht
      simp [ht]
    refine ⟨RRc_tr h1 (w 3 (by decide) (by decide)) (w 6 (by decide) (by decide)) (w 7 (by decide) (by decide)) (w 8 (by decide) (by decide)) (w 9 (by decide) (by decide)) (w 14 (by decide) (by decide)) (fun t h => ht t (by simp; omega)), RRm_tr h2 (fun j hj => by rw [w1]; exact t4 j (by omega)) h12 (ht 1 (by decide)) (ht 9 (by decide)) (ht 10 (by decide)) (ht 11 (by decide)) (ht 12 (by decide)), RRp_tr h3 (by rw [wi]) (w 10 (by decide) (by decide)) (w 11 (by decide) (by decide)) (ht 16 (by decide)) (ht 17 (by decide)) (ht 18 (by decide)), RRx_tr h4 (by rw [wi]) (by rw [wi]) (w 12 (by decide) (by decide)) (w 26 (by decide) (by decide)) (ht 1 (by decide)) (ht 13 (by decide)) (ht 14 (by decide)) (ht 15 (by decide)), ?_, RRt_tr h6 (by rw [wi]) (by rw [wi]) (w 13 (by decide) (by decide)) (ht 19 (by decide)) (ht 20 (by decide)) (ht 21 (by decide))⟩
    intro j hj
    by_cases ej : j = i
    · subst ej
      refine ⟨?_, fun _ => ⟨fun p hp => ?_, ?_, ?_⟩⟩
      · rw [bs_get, if_pos ⟨rfl, rfl⟩]
        simp [sIm]
        rfl
      · have hp2 : p < sP S := by simpa [sP] using hp
        rw [w1, t3 p (by omega), t3 (12 + p) (by omega)]
        simp only [Nat.zero_add]
        simpa [sIk, sIf] using h2.1 p hp2
      · rw [w1, t3 24 (by omega)]
        simpa [sIa] using h2.2.1
      · rw [w1, t3 25 (by omega)]
        simpa [sIs] using h2.2.2
    · obtain ⟨g1, g2⟩ := h5 j hj
      refine ⟨?_, fun q => ?_⟩
      · rw [bs_get, if_neg (fun z => ej z.2), t2 2 (by decide)]
        simpa [sIm, ej] using g1
      · have q2 : sIm S j = 1 := by simpa [sIm, ej] using q
        obtain ⟨g3, g4, g5⟩ := g2 q2
        refine ⟨fun p hp => ?_, ?_, ?_⟩
        · have hp2 : p < sP S := by simpa [sP] using hp
          rw [w1, t4 _ (by omega), t4 _ (by omega)]
          simpa [sIk, sIf, ej] using g3 p hp2
        · rw [w1, t4 _ (by omega)]
          simpa [sIa, ej] using g4
        · rw [w1, t4 _ (by omega)]
          simpa [sIs, ej] using g5
  · rw [e] at hQ
    exact ⟨fun ⟨h, hh, q⟩ => absurd q (hx h (by omega)), fun _ => hQ _ hR⟩
def nGoBack (S : SP) (x : Int32) : SP := match ix x 2 with
  | none => S
  | some i => if sIm S i = 1 then (fun t a b => if t = 9 ∧ b = 0 then S 23 i a else if t = 10 ∧ b = 0 then S 24 i a else if t = 11 ∧ a = 0 ∧ b = 0 then S 25 i 0 else if t = 12 ∧ a = 0 ∧ b = 0 then S 26 i 0 else S t a b) else S
def aGoBack (S : SP) (x : Int32) : Int32 := match ix x 2 with
  | none => -1000001
  | some i => if sIm S i = 1 then 1 else -1000003
theorem r_goBack {S : SP} {σ : nh_S} (hR : RR σ S) (hW : WF S) (x : Int32) {Q : Option Value → nh_S → Prop} (hQ : ∀ τ, RR τ (nGoBack S x) → Q (some (.int (aGoBack S x))) τ) : nh_E kX9_goBack 0 [some (.ref 0), some (.int x)] [] σ Q := by
  have h12 := hW.1.2.1
  unfold nGoBack aGoBack at hQ
  refine sg_X9_goBack_0 x ?_
  rw [show (1 : Int32) = nI 1 from rfl, ix_lit (by omega)]
  rcases ix_cases x (n := 2) (by omega) with ⟨i, hi, rfl, e⟩ | ⟨e, hx⟩
  · rw [e] at hQ
    dsimp only at hQ
    refine ⟨fun _ => ⟨pk_in i 2 hi, ?_⟩, fun c => absurd ⟨i, by omega, rfl⟩ c⟩
    rw [pk_cl i rfl (by omega), (hR.2.2.2.2.1 i hi).1]
    have him := (hW.2.2.2.2.1 i hi).1
    refine ⟨fun c => ?_, fun c => ?_⟩
    · have h1 : sIm S i = 1 := by
        rcases (show sIm S i = 0 ∨ sIm S i = 1 by omega) with q | q
        · rw [q] at c; exact absurd rfl c
        · exact q
      rw [if_pos h1, if_pos h1] at hQ
      rw [nI_add, show (26 : Int32) = nI 26 from rfl, pk_mul]
      refine r_copy (a := 26 * (i + 1)) (b := 0) (by omega) (by omega) (by omega) (fun τ t1 t2 t3 t4 => ⟨rfl, hQ _ ?_⟩)
      obtain ⟨g1, g2, g3, g4, g5, g6⟩ := hR
      obtain ⟨-, k2⟩ := g5 i hi
      obtain ⟨k3, k4, k5⟩ := k2 h1
      have ht : ∀ t, t ∉ [9, 10, 11, 12] → (fun a b => if t = 9 ∧ b = 0 then S 23 i a else if t = 10 ∧ b = 0 then S 24 i a else if t = 11 ∧ a = 0 ∧ b = 0 then S 25 i 0 else if t = 12 ∧ a = 0 ∧ b = 0 then S 26 i 0 else S t a b) = S t := by
        intro t ht
        funext a b
        simp at ht
        simp [ht]
      refine ⟨RRc_tr g1 (t2 3 (by decide)) (t2 6 (by decide)) (t2 7 (by decide)) (t2 8 (by decide)) (t2 9 (by decide)) (t2 14 (by decide)) (fun t h => ht t (by simp; omega)), ?_, RRp_tr g3 (by rw [t1]) (t2 10 (by decide)) (t2 11 (by decide)) (ht 16 (by decide)) (ht 17 (by decide)) (ht 18 (by decide)), RRx_tr g4 (by rw [t1]) (by rw [t1]) (t2 12 (by decide)) (t2 26 (by decide)) (ht 1 (by decide)) (ht 13 (by decide)) (ht 14 (by decide)) (ht 15 (by decide)), RRi_tr g5 (fun j _ => by rw [t2 2 (by decide)]) (fun j hj => t4 j (by omega)) (ht 1 (by decide)) (ht 22 (by decide)) (ht 23 (by decide)) (ht 24 (by decide)) (ht 25 (by decide)) (ht 26 (by decide)), RRt_tr g6 (by rw [t1]) (by rw [t1]) (t2 13 (by decide)) (ht 19 (by decide)) (ht 20 (by decide)) (ht 21 (by decide))⟩
      refine ⟨fun p hp => ?_, ?_, ?_⟩
      · have hp2 : p < sP S := by simpa [sP] using hp
        have e1 := t3 p (by omega)
        have e2 := t3 (12 + p) (by omega)
        rw [Nat.zero_add] at e1 e2
        rw [e1, e2]
        simpa [sKp, sFt, sIk, sIf] using k3 p hp2
      · have e1 := t3 24 (by omega)
        rw [Nat.zero_add] at e1
        rw [e1]
        simpa [sAw, sIa] using k4
      · have e1 := t3 25 (by omega)
        rw [Nat.zero_add] at e1
        rw [e1]
        simpa [sSd, sIs] using k5
    · have h1 : ¬ sIm S i = 1 := fun q => by rw [q] at c; exact absurd c (by decide)
      rw [if_neg h1, if_neg h1] at hQ
      exact hQ _ hR
  · rw [e] at hQ
    exact ⟨fun ⟨h, hh, q⟩ => absurd q (hx h (by omega)), fun _ => hQ _ hR⟩
