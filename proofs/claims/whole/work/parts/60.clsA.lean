/-! THE CLASS's cells and the spec state -/
def isM (l : Nat) : Prop := l = 77 ∨ l = 80
theorem isM.L {l : Nat} (h : isM l) : isL l := by unfold isM at h; unfold isL; omega
def CRr (σ : nh_S) : Prop := isP (σ.2.2 0 11) ∧ isP (σ.2.2 0 12) ∧ σ.2.2 0 12 ≠ σ.2.2 0 11 ∧ isM (σ.2.2 0 13) ∧ isM (σ.2.2 0 14) ∧ σ.2.2 0 14 ≠ σ.2.2 0 13
def CRc (σ : nh_S) (o : Nat) (S : SP) : Prop := σ.1 o 0 = nI (sH S) ∧ σ.1 o 1 = nI (sP S) ∧ (∀ p, p < sP S → σ.2.1 (o + 19) p = nI (sMi S p) ∧ σ.2.1 (o + 20) p = nI (sGa S p) ∧ σ.2.1 (o + 21) p = nI (sBe S p)) ∧ (∀ a b, a < sH S → b < sH S → σ.2.1 (o + 9 + a) b = nI (sFar S a b)) ∧ (∀ h, h < sH S → σ.2.1 (o + 1) h = nI (sWk S h) ∧ σ.2.1 (o + 2) h = nI (sKy S h) ∧ ∀ q, q < 4 → σ.2.1 (o + 4 + q) h = nI (sOd S q h))
def CRm (σ : nh_S) (S : SP) : Prop := (∀ p, p < sP S → σ.2.1 4 p = nI (sKp S p) ∧ σ.2.1 5 p = nI (sFt S p)) ∧ σ.1 3 2 = nI (sAw S) ∧ σ.1 3 3 = nI (sSd S)
def CRp (σ : nh_S) (l n : Nat) (pa pb : Nat → Nat) : Prop := σ.1 l 0 = nI n ∧ ∀ i, i < n → σ.2.1 (l + 1) i = nI (pa i) ∧ σ.2.1 (l + 2) i = nI (pb i)
def lgo (S : SP) (p : Nat) : Option Nat := if sLg S p = 0 then none else some (sLg S p - 1)
def CRx (σ : nh_S) (S : SP) : Prop := (∀ p, p < sP S → σ.2.1 30 p = nI (sCs S p)) ∧ σ.1 0 16 = nI (sSt S) ∧ ∀ p, p < sP S → σ.2.1 31 p = ot (lgo S p)
def CRi (σ : nh_S) (S : SP) : Prop := ∀ i, i < 2 → σ.1 (6 + 3 * i) 4 = nI (sIm S i) ∧ (sIm S i = 1 → (∀ p, p < sP S → σ.2.1 (6 + 3 * i + 1) p = nI (sIk S i p) ∧ σ.2.1 (6 + 3 * i + 2) p = nI (sIf S i p)) ∧ σ.1 (6 + 3 * i) 2 = nI (sIa S i) ∧ σ.1 (6 + 3 * i) 3 = nI (sIs S i))
def CRt (σ : nh_S) (S : SP) : Prop := σ.1 1 1 = nI (sTn S) ∧ (∀ i, i < sTn S → σ.2.1 2 i = nI (sTx S i)) ∧ σ.1 1 4 = ot (if sFa S = 0 then none else some (sFa S - 1))
def CR (σ : nh_S) (S : SP) : Prop := CRr σ ∧ CRc σ (σ.2.2 0 11) S ∧ CRm σ S ∧ CRp σ (σ.2.2 0 13) (sPn S) (sPa S) (sPb S) ∧ CRx σ S ∧ CRi σ S ∧ CRt σ S
/-- only these cells have changed -/
def frC (ks : List Nat) (σ τ : nh_S) : Prop := (∀ k, k ∉ ks → τ.1 k = σ.1 k ∧ τ.2.1 k = σ.2.1 k) ∧ τ.2.2 = σ.2.2
theorem frC.rf (ks : List Nat) (σ : nh_S) : frC ks σ σ := ⟨fun _ _ => ⟨rfl, rfl⟩, rfl⟩
theorem frC.tr {ks : List Nat} {σ τ υ : nh_S} (h : frC ks σ τ) (g : frC ks τ υ) : frC ks σ υ := ⟨fun k hk => ⟨(g.1 k hk).1.trans (h.1 k hk).1, (g.1 k hk).2.trans (h.1 k hk).2⟩, g.2.trans h.2⟩
theorem frC.wa {ks : List Nat} {σ τ : nh_S} (h : frC ks σ τ) {k : Nat} (i : Nat) (x : Int32) (hk : k ∈ ks) : frC ks σ (nh_wa τ k i x) := ⟨fun j hj => ⟨(h.1 j hj).1, by rw [wa_ne τ i x (fun e => hj (by rw [e]; exact hk))]; exact (h.1 j hj).2⟩, h.2⟩
theorem si_neK (σ : nh_S) {k : Nat} (j : Nat) (x : Int32) {k' : Nat} (h : k' ≠ k) : (nh_si σ k j x).1 k' = σ.1 k' := by
  funext j'
  rw [bs_geti, if_neg (fun e => h e.1)]
theorem frC.si {ks : List Nat} {σ τ : nh_S} (h : frC ks σ τ) {k : Nat} (j : Nat) (x : Int32) (hk : k ∈ ks) : frC ks σ (nh_si τ k j x) := ⟨fun i hi => ⟨by rw [si_neK τ j x (fun e => hi (by rw [e]; exact hk))]; exact (h.1 i hi).1, (h.1 i hi).2⟩, h.2⟩
theorem frC.mono {ks ls : List Nat} {σ τ : nh_S} (h : frC ks σ τ) (hs : ∀ k ∈ ks, k ∈ ls) : frC ls σ τ := ⟨fun k hk => h.1 k (fun q => hk (hs k q)), h.2⟩
theorem CRr_tr {σ τ : nh_S} (h : CRr σ) (g : τ.2.2 0 = σ.2.2 0) : CRr τ := by unfold CRr; rw [g]; exact h
theorem CRc_tr {σ τ : nh_S} {o : Nat} {S T : SP} (h : CRc σ o S) (hq : WFc S) (hi : τ.1 o = σ.1 o) (ha : ∀ k, o < k → k ≤ o + 21 → τ.2.1 k = σ.2.1 k) (ht : ∀ t, t < 9 → T t = S t) : CRc τ o T := by
  have h9 := hq.1
  unfold CRc at h ⊢
  simp only [sH, sP, sMi, sGa, sBe, sFar, sOd, sWk, sKy] at h h9 ⊢
  rw [ht 0 (by decide), ht 1 (by decide), ht 2 (by decide), ht 3 (by decide), ht 4 (by decide), ht 5 (by decide), ht 6 (by decide), ht 7 (by decide), ht 8 (by decide), hi, ha (o + 1) (by omega) (by omega), ha (o + 2) (by omega) (by omega), ha (o + 19) (by omega) (by omega), ha (o + 20) (by omega) (by omega), ha (o + 21) (by omega) (by omega)]
  refine ⟨h.1, h.2.1, h.2.2.1, fun a b h1 h2 => ?_, fun x hx => ?_⟩
  · rw [ha (o + 9 + a) (by omega) (by omega)]; exact h.2.2.2.1 a b h1 h2
  · obtain ⟨g1, g2, g3⟩ := h.2.2.2.2 x hx
    exact ⟨g1, g2, fun q hq => by rw [ha (o + 4 + q) (by omega) (by omega)]; exact g3 q hq⟩
theorem CRm_tr {σ τ : nh_S} {S T : SP} (h : CRm σ S) (a4 : τ.2.1 4 = σ.2.1 4) (a5 : τ.2.1 5 = σ.2.1 5) (i3 : τ.1 3 = σ.1 3) (h1 : T 1 = S 1) (h9 : T 9 = S 9) (h10 : T 10 = S 10) (h11 : T 11 = S 11) (h12 : T 12 = S 12) : CRm τ T := by
  unfold CRm at h ⊢
  simp only [sP, sKp, sFt, sAw, sSd] at h ⊢
  rw [h1, h9, h10, h11, h12, a4, a5, i3]
  exact h
theorem CRp_tr {σ τ : nh_S} {l n : Nat} {pa pb : Nat → Nat} (h : CRp σ l n pa pb) (i0 : τ.1 l = σ.1 l) (a1 : τ.2.1 (l + 1) = σ.2.1 (l + 1)) (a2 : τ.2.1 (l + 2) = σ.2.1 (l + 2)) : CRp τ l n pa pb := by
  unfold CRp at h ⊢
  rw [i0, a1, a2]
  exact h
theorem CRx_tr {σ τ : nh_S} {S T : SP} (h : CRx σ S) (a30 : τ.2.1 30 = σ.2.1 30) (a31 : τ.2.1 31 = σ.2.1 31) (i16 : τ.1 0 16 = σ.1 0 16) (h1 : T 1 = S 1) (h13 : T 13 = S 13) (h14 : T 14 = S 14) (h15 : T 15 = S 15) : CRx τ T := by
  unfold CRx lgo at h ⊢
  simp only [sP, sCs, sSt, sLg] at h ⊢
  rw [h1, h13, h14, h15, a30, a31, i16]
  exact h
theorem CRi_tr {σ τ : nh_S} {S T : SP} (h : CRi σ S) (hk : ∀ k, 6 ≤ k → k ≤ 11 → τ.1 k = σ.1 k ∧ τ.2.1 k = σ.2.1 k) (h1 : T 1 = S 1) (h22 : T 22 = S 22) (h23 : T 23 = S 23) (h24 : T 24 = S 24) (h25 : T 25 = S 25) (h26 : T 26 = S 26) : CRi τ T := by
  unfold CRi at h ⊢
  simp only [sP, sIm, sIk, sIf, sIa, sIs] at h ⊢
  rw [h1, h22, h23, h24, h25, h26]
  intro i hi
  rw [(hk (6 + 3 * i) (by omega) (by omega)).1, (hk (6 + 3 * i + 1) (by omega) (by omega)).2, (hk (6 + 3 * i + 2) (by omega) (by omega)).2]
  exact h i hi
theorem CRt_tr {σ τ : nh_S} {S T : SP} (h : CRt σ S) (i1 : τ.1 1 1 = σ.1 1 1) (i4 : τ.1 1 4 = σ.1 1 4) (a2 : τ.2.1 2 = σ.2.1 2) (h19 : T 19 = S 19) (h20 : T 20 = S 20) (h21 : T 21 = S 21) : CRt τ T := by
  unfold CRt at h ⊢
  simp only [sTn, sTx, sFa] at h ⊢
  rw [h19, h20, h21, i1, i4, a2]
  exact h
/-- scratch cells -/
def sc (k : Nat) : Prop := (12 ≤ k ∧ k ≤ 29) ∨ k = 32 ∨ 83 ≤ k
def prC (σ τ : nh_S) : Prop := (∀ k, ¬ sc k → τ.1 k = σ.1 k ∧ τ.2.1 k = σ.2.1 k) ∧ τ.2.2 0 = σ.2.2 0
theorem prC.rf (σ : nh_S) : prC σ σ := ⟨fun _ _ => ⟨rfl, rfl⟩, rfl⟩
theorem prC.tr {σ τ υ : nh_S} (h : prC σ τ) (g : prC τ υ) : prC σ υ := ⟨fun k hk => ⟨(g.1 k hk).1.trans (h.1 k hk).1, (g.1 k hk).2.trans (h.1 k hk).2⟩, g.2.trans h.2⟩
theorem frC.pr {ks : List Nat} {σ τ : nh_S} (h : frC ks σ τ) (hs : ∀ k ∈ ks, sc k) : prC σ τ := ⟨fun k hk => h.1 k (fun q => hk (hs k q)), by rw [h.2]⟩
theorem isP.no {o : Nat} (h : isP o) : ∀ k, o ≤ k → k ≤ o + 21 → ¬ sc k := by
  intro k h1 h2
  unfold isP at h
  unfold sc
  omega
theorem isM.no {l : Nat} (h : isM l) : ∀ k, l ≤ k → k ≤ l + 2 → ¬ sc k := by
  intro k h1 h2
  unfold isM at h
  unfold sc
  omega
theorem CR.pr {σ τ : nh_S} {S : SP} (h : CR σ S) (hW : WF S) (g : prC σ τ) : CR τ S := by
  obtain ⟨h1, h2, h3, h4, h5, h6, h7⟩ := h
  obtain ⟨g1, g2⟩ := g
  have hp := h1.1
  have hl := h1.2.2.2.1
  have n : ∀ k, (k < 12 ∨ k = 30 ∨ k = 31) → ¬ sc k := fun k hk => by unfold sc; omega
  refine ⟨CRr_tr h1 g2, ?_, CRm_tr h3 (g1 4 (n 4 (by omega))).2 (g1 5 (n 5 (by omega))).2 (g1 3 (n 3 (by omega))).1 rfl rfl rfl rfl rfl, ?_, CRx_tr h5 (g1 30 (n 30 (by omega))).2 (g1 31 (n 31 (by omega))).2 (by rw [(g1 0 (n 0 (by omega))).1]) rfl rfl rfl rfl, CRi_tr h6 (fun k h1 h2 => g1 k (n k (by omega))) rfl rfl rfl rfl rfl rfl, CRt_tr h7 (by rw [(g1 1 (n 1 (by omega))).1]) (by rw [(g1 1 (n 1 (by omega))).1]) (g1 2 (n 2 (by omega))).2 rfl rfl rfl⟩
  · rw [g2]
    exact CRc_tr h2 hW.1 (g1 _ (hp.no _ (by omega) (by omega))).1 (fun k h1 h2 => (g1 k (hp.no k (by omega) h2)).2) (fun _ _ => rfl)
  · rw [g2]
    exact CRp_tr h4 (g1 _ (hl.no _ (by omega) (by omega))).1 (g1 _ (hl.no _ (by omega) (by omega))).2 (g1 _ (hl.no _ (by omega) (by omega))).2
/-- Arrays.fill -/
theorem c_fill {a0 n0 : Nat} (ha0 : shC[a0]? = some (.inl (.int, n0, none))) (hn : n0 < 5000) (x : Int32) {σ : nh_S} {Q : Option Value → nh_S → Prop} (hQ : ∀ τ, τ.1 = σ.1 → τ.2.2 = σ.2.2 → (∀ k, k ≠ a0 → τ.2.1 k = σ.2.1 k) → (∀ i, i < n0 → τ.2.1 a0 i = x) → Q none τ) : nh_E kJ7_fill_53178 0 [some (.ref a0), some (.int x), none, none] [] σ Q := by
  refine sg_J7_fill_53178_0 ha0 _ ?_
  show nh_E kJ7_fill_53178 5 [some (.ref a0), some (.int x), some (.int (nI 0)), some (.int (nI n0))] [] σ Q
  refine nh_loop (α := nh_S) (fun i τ => nh_E kJ7_fill_53178 5 [some (.ref a0), some (.int x), some (.int (nI i)), some (.int (nI n0))] [] τ Q) (fun n τ => τ.1 = σ.1 ∧ τ.2.2 = σ.2.2 ∧ (∀ k, k ≠ a0 → τ.2.1 k = σ.2.1 k) ∧ ∀ i, i < n → τ.2.1 a0 i = x) n0 ?_ ?_ n0 0 σ (by omega) ⟨rfl, rfl, fun _ _ => rfl, fun i hi => by omega⟩
  · rintro τ ⟨t1, t2, t3, t4⟩
    exact sg_J7_fill_53178_5 ha0 _ _ _ (pk_le n0 n0 (fun _ => hQ τ t1 t2 t3 t4) (fun c => by omega))
  · rintro i τ hi ⟨t1, t2, t3, t4⟩ ih
    refine sg_J7_fill_53178_5 ha0 _ _ _ (pk_le n0 i (fun c => by omega) (fun _ => ⟨pk_in i n0 hi, ?_⟩))
    rw [nI_1, pk_cl i rfl (by omega)]
    refine ih _ ⟨t1, t2, fun k hk => by rw [wa_ne _ _ _ hk]; exact t3 k hk, fun j hj => ?_⟩
    rw [bs_get]
    by_cases e : j = i
    · rw [if_pos ⟨rfl, e⟩]
    · rw [if_neg (fun z => e z.2)]
      exact t4 j (by omega)
theorem lgm_bit {S : SP} (i : Nat) : (lgm S).testBit i = (decide (i < sP S) && decide (sLg S i ≠ 0)) := by unfold lgm; rw [mk_bit]
theorem ot_m1 {v : Nat} (hv : v < 2 ^ 31) : ¬ ot (some v) = -1 := fun e => ot_nn hv (by rw [e]; decide)
theorem lgo_m1 {S : SP} (hW : WF S) {p : Nat} (hp : p < sP S) : ot (lgo S p) = -1 ↔ sLg S p = 0 := by
  have := (hW.2.2.2.1.1 p hp).2
  unfold lgo
  by_cases h : sLg S p = 0
  · rw [if_pos h]; exact ⟨fun _ => h, fun _ => rfl⟩
  · rw [if_neg h]; exact ⟨fun q => absurd q (ot_m1 (by omega)), fun q => absurd q h⟩
theorem pop_lgm {S : SP} (h12 : sP S ≤ 12) : pop (lgm S) = fb_ct (fun p => decide (sLg S p ≠ 0)) (sP S) := by
  unfold pop
  have h := fb_ct_split (fun i => (lgm S).testBit i) (sP S) (12 - sP S)
  rw [show sP S + (12 - sP S) = 12 by omega] at h
  rw [h, (fb_ct_zero (p := fun k => (lgm S).testBit (sP S + k)) (n := 12 - sP S)).mpr (fun k _ => by rw [lgm_bit, decide_eq_false (by omega)]; rfl), Nat.add_zero]
  apply fb_ct_cong
  intro k hk
  rw [lgm_bit, decide_eq_true hk]
  rfl
theorem c_countLogged {S : SP} {σ : nh_S} (hp : isP (σ.2.2 0 11)) (h1 : σ.1 (σ.2.2 0 11) 1 = nI (sP S)) (h12 : sP S ≤ 12) (h31 : ∀ p, p < sP S → (σ.2.1 31 p = -1 ↔ sLg S p = 0)) {Q : Option Value → nh_S → Prop} (hQ : Q (some (.int (nI (pop (lgm S))))) σ) : nh_E kX8_countLogged 0 [some (.ref 0), none, none] [] σ Q := by
  rw [pop_lgm h12] at hQ
  refine sg_X8_countLogged_0 ?_
  refine nh_loop (α := Unit) (fun i _ => nh_E kX8_countLogged 4 [some (.ref 0), some (.int (nI (fb_ct (fun p => decide (sLg S p ≠ 0)) i))), some (.int (nI i))] [] σ Q) (fun _ _ => True) (sP S) ?_ ?_ (sP S) 0 () (by omega) trivial
  · intro _ _
    exact sg_X8_countLogged_4 _ _ ⟨hp, pk_le (sP S) (sP S) (fun _ => hQ) (fun c => by omega) h1 rfl⟩
  · intro i _ hi _ ih
    have ih := ih () trivial
    rw [fb_ct_succ] at ih
    refine sg_X8_countLogged_4 _ _ ⟨hp, pk_le (sP S) i (fun c => by omega) (fun _ => ⟨pk_in i 12 (by omega), fun c => ?_, fun c => ?_⟩) h1 rfl⟩
    · rw [pk_cl i rfl (by omega)] at c
      rw [decide_eq_false (fun q => q ((h31 i hi).mp c))] at ih
      rw [nI_1]
      exact ih
    · rw [pk_cl i rfl (by omega)] at c
      rw [decide_eq_true (show sLg S i ≠ 0 from fun q => c ((h31 i hi).mpr q))] at ih
      rw [nI_1, nI_1]
      exact ih
theorem c_told {S : SP} {σ : nh_S} (hC : CR σ S) (hW : WF S) (x : Int32) {Q : Option Value → nh_S → Prop} (hQ : Q (some (.int (aTold S x))) σ) : nh_E kX8_told 0 [some (.ref 0), some (.int x)] [] σ Q := by
  unfold aTold at hQ
  refine sg_X8_told_0 x ⟨?_, ?_, ?_, ?_, ?_, ?_, ?_, ?_⟩
  · rintro rfl; rw [hC.2.1.1]; exact ⟨hC.1.1, hQ⟩
  · rintro rfl; rw [hC.2.1.2.1]; exact ⟨hC.1.1, hQ⟩
  · rintro rfl; rw [hC.2.2.2.1.1]; exact ⟨hC.1.2.2.2.1.L, hQ⟩
  · rintro rfl; rw [hC.2.2.2.2.2.2.1]; exact hQ
  · rintro rfl; rw [hC.2.2.1.2.1]; exact hQ
  · rintro rfl; rw [hC.2.2.2.2.1.2.1]; exact hQ
  · rintro rfl
    exact c_countLogged hC.1.1 hC.2.1.2.1 hW.1.2.1 (fun p hp => by rw [hC.2.2.2.2.1.2.2 p hp]; exact lgo_m1 hW hp) ⟨_, rfl, hQ⟩
  · rintro ⟨h0, h1, h2, h3, h4, h5, h6⟩
    rw [if_neg h0, if_neg h1, if_neg h2, if_neg h3, if_neg h4, if_neg h5, if_neg h6] at hQ
    exact hQ
theorem c_fault {S : SP} {σ : nh_S} (hC : CR σ S) {Q : Option Value → nh_S → Prop} (hQ : Q (some (.int (ot (if sFa S = 0 then none else some (sFa S - 1))))) σ) : nh_E kX8_fault 0 [some (.ref 0)] [] σ Q := by
  refine sg_X8_fault_0 ?_
  rw [hC.2.2.2.2.2.2.2.2]
  exact hQ
theorem c_partsAt {S : SP} {σ : nh_S} (hC : CR σ S) (hW : WF S) {h : Nat} (hh : h < 2 ^ 31) {Q : Option Value → nh_S → Prop} (hQ : Q (some (.int (nI (mk (fun p => sKp S p == h) (sP S))))) σ) : nh_E kX2_partsAt 0 [some (.ref 3), some (.int (nI h)), some (.int (nI (sP S))), none, none] [] σ Q := by
  have h12 := hW.1.2.1
  have h9 := hW.1.1
  refine sg_X2_partsAt_0 isN_3 _ _ ?_
  refine nh_loop (α := Unit) (fun i _ => nh_E kX2_partsAt 5 [some (.ref 3), some (.int (nI h)), some (.int (nI (sP S))), some (.int (nI (mk (fun p => sKp S p == h) i))), some (.int (nI i))] [] σ Q) (fun _ _ => True) (sP S) ?_ ?_ (sP S) 0 () (by omega) trivial
  · intro _ _
    exact sg_X2_partsAt_5 isN_3 _ _ _ _ (pk_le (sP S) (sP S) (fun _ => hQ) (fun c => by omega))
  · intro i _ hi _ ih
    have ih := ih () trivial
    have hk := (hW.2.1.1 i hi).1
    have e := bs_mk (fun p => sKp S p == h) (p := i) (by omega) (c := sKp S i = h) (by simp)
    refine sg_X2_partsAt_5 isN_3 _ _ _ _ (pk_le (sP S) i (fun c => by omega) (fun _ => ⟨pk_in i 12 (by omega), ?_⟩))
    rw [pk_cl i rfl (by omega), (hC.2.2.1.1 i hi).1, nI_1]
    have hq := nI_eq (a := sKp S i) (b := h) (by omega) hh
    refine ⟨fun c => ?_, fun c => ?_⟩
    · rw [if_neg (fun q => c (hq.mpr q))] at e
      have e0 : (0 : Int32) <<< (nI i &&& 31) = 0 := by
        have h2 := pk_shlN (n := 0) (nI i &&& 31) i (bs_sm i (by omega)) (by omega)
        rw [Nat.zero_mul] at h2
        exact h2
      rw [e0, show (0 : Int32) = nI 0 from rfl, fa_or, Nat.or_zero] at e
      rw [e]
      exact ih
    · rw [if_pos (hq.mp c)] at e
      rw [e]
      exact ih
theorem c_house {S : SP} {σ : nh_S} (hC : CR σ S) (hW : WF S) (x y : Int32) {Q : Option Value → nh_S → Prop} (hQ : Q (some (.int (aHouse S x y))) σ) : nh_E kX8_house 0 [some (.ref 0), some (.int x), some (.int y)] [] σ Q := by
  have h9 := hW.1.1
  unfold aHouse at hQ
  refine sg_X8_house_0 x y ⟨hC.1.1, ?_⟩
  rw [hC.2.1.1, ix_cls (by omega)]
  rcases ix_cases x (n := sH S) (by omega) with ⟨h, hh, rfl, e⟩ | ⟨e, hx⟩
  · rw [e] at hQ
    dsimp only at hQ
    obtain ⟨g1, g2, g3⟩ := hC.2.1.2.2.2.2 h hh
    refine ⟨fun _ => ?_, fun c => absurd ⟨h, hh, rfl⟩ c⟩
    rw [pk_cl h rfl (by omega), g1, g2, hC.2.1.2.1]
    have hin : vp_in (nI h) 9 := pk_in h 9 (by omega)
    refine ⟨?_, ?_, ?_, ?_, ?_, ?_, ?_, ?_⟩
    · rintro rfl; exact ⟨hin, hQ⟩
    · rintro rfl; exact ⟨hin, hQ⟩
    · rintro rfl
      have := g3 0 (by omega)
      refine ⟨pk_in 0 4 (by omega) (by decide), hin, ?_⟩
      show Q (some (.int (σ.2.1 (σ.2.2 0 11 + 4 + 0) h))) σ
      rw [this]
      exact hQ
    · rintro rfl
      have := g3 1 (by omega)
      refine ⟨pk_in 1 4 (by omega) (by decide), hin, ?_⟩
      show Q (some (.int (σ.2.1 (σ.2.2 0 11 + 4 + 1) h))) σ
      rw [this]
      exact hQ
    · rintro rfl
      have := g3 2 (by omega)
      refine ⟨pk_in 2 4 (by omega) (by decide), hin, ?_⟩
      show Q (some (.int (σ.2.1 (σ.2.2 0 11 + 4 + 2) h))) σ
      rw [this]
      exact hQ
    · rintro rfl
      have := g3 3 (by omega)
      refine ⟨pk_in 3 4 (by omega) (by decide), hin, ?_⟩
      show Q (some (.int (σ.2.1 (σ.2.2 0 11 + 4 + 3) h))) σ
      rw [this]
      exact hQ
    · rintro rfl
      exact c_partsAt hC hW (by omega) ⟨_, rfl, hQ⟩
    · rintro ⟨h0, h1, h2, h3, h4, h5, h6⟩
      have e2 : ix y 7 = none := by
        rcases ix_cases y (n := 7) (by omega) with ⟨w, hw, rfl, -⟩ | ⟨e2, -⟩
        · exfalso
          rcases (show w = 0 ∨ w = 1 ∨ w = 2 ∨ w = 3 ∨ w = 4 ∨ w = 5 ∨ w = 6 by omega) with rfl | rfl | rfl | rfl | rfl | rfl | rfl
          · exact h0 rfl
          · exact h1 rfl
          · exact h2 rfl
          · exact h3 rfl
          · exact h4 rfl
          · exact h5 rfl
          · exact h6 rfl
        · exact e2
      rw [e2] at hQ
      exact hQ
  · rw [e] at hQ
    exact ⟨fun c => absurd (fun ⟨h, hh, q⟩ => hx h hh q) c, fun _ => hQ⟩
theorem c_far {S : SP} {σ : nh_S} (hC : CR σ S) (hW : WF S) (x y : Int32) {Q : Option Value → nh_S → Prop} (hQ : Q (some (.int (aFar S x y))) σ) : nh_E kX8_far 0 [some (.ref 0), some (.int x), some (.int y)] [] σ Q := by
  have h9 := hW.1.1
  unfold aFar at hQ
  refine sg_X8_far_0 x y ⟨hC.1.1, ?_⟩
  rw [hC.2.1.1, ix_cls (by omega), ix_cls (by omega)]
  rcases ix_cases x (n := sH S) (by omega) with ⟨a, ha, rfl, e⟩ | ⟨e, hx⟩
  · refine ⟨fun c => absurd ⟨a, ha, rfl⟩ c, fun _ => ?_⟩
    rcases ix_cases y (n := sH S) (by omega) with ⟨b, hb, rfl, e2⟩ | ⟨e2, hy⟩
    · rw [e, e2] at hQ
      refine ⟨fun _ => ⟨pk_in a 9 (by omega), pk_in b 9 (by omega), ?_⟩, fun c => absurd ⟨b, hb, rfl⟩ c⟩
      rw [pk_cl a rfl (by omega), pk_cl b rfl (by omega), hC.2.1.2.2.2.1 a b ha hb]
      exact hQ
    · rw [e, e2] at hQ
      exact ⟨fun c => absurd (fun ⟨h, hh, q⟩ => hy h hh q) c, fun _ => hQ⟩
  · rw [e] at hQ
    exact ⟨fun _ => hQ, fun c => absurd (fun ⟨h, hh, q⟩ => hx h hh q) c⟩
theorem c_part {S : SP} {σ : nh_S} (hC : CR σ S) (hW : WF S) (x y : Int32) {Q : Option Value → nh_S → Prop} (hQ : Q (some (.int (aPart S x y))) σ) : nh_E kX8_part 0 [some (.ref 0), some (.int x), some (.int y)] [] σ Q := by
  have h12 := hW.1.2.1
  unfold aPart at hQ
  refine sg_X8_part_0 x y ⟨hC.1.1, ?_⟩
  rw [hC.2.1.2.1, ix_cls (by omega)]
  rcases ix_cases x (n := sP S) (by omega) with ⟨p, hp, rfl, e⟩ | ⟨e, hx⟩
  · rw [e] at hQ
    obtain ⟨g1, g2, g3⟩ := hC.2.1.2.2.1 p hp
    obtain ⟨g4, g5⟩ := hC.2.2.1.1 p hp
    have g6 := hC.2.2.2.2.1.1 p hp
    refine ⟨fun _ => ?_, fun c => absurd ⟨p, hp, rfl⟩ c⟩
    rw [pk_cl p rfl (by omega), g1, g2, g3, g4, g5, g6]
    have hin : vp_in (nI p) 12 := pk_in p 12 (by omega)
    refine ⟨?_, ?_, ?_, ?_, ?_, ?_, ?_⟩
    · rintro rfl; exact ⟨hin, hQ⟩
    · rintro rfl; exact ⟨hin, hQ⟩
    · rintro rfl; exact ⟨hin, hQ⟩
    · rintro rfl; exact ⟨hin, hQ⟩
    · rintro rfl; exact ⟨hin, hQ⟩
    · rintro rfl; exact ⟨hin, hQ⟩
    · rintro ⟨h0, h1, h2, h3, h4, h5⟩
      dsimp only at hQ
      rw [if_neg h0, if_neg h1, if_neg h2, if_neg h3, if_neg h4, if_neg h5] at hQ
      exact hQ
  · rw [e] at hQ
    exact ⟨fun c => absurd (fun ⟨h, hh, q⟩ => hx h hh q) c, fun _ => hQ⟩
/-- bits beyond -/
theorem bs_bey {x : Int32} {k : Nat} (hk : k < 30) : x &&& ((((1 : Int32) <<< (nI k &&& 31)) - 1) ^^^ (-1)) = 0 ↔ ∃ m, m < 2 ^ k ∧ x = nI m := by
  have hpw : 2 ^ k ≤ 2 ^ 29 := pw_le (by omega)
  rw [bs_full (by omega)]
  constructor
  · intro h
    have hb : ∀ i, bt x i = true → i < k := by
      intro i hi
      have hlt : i < 32 := Nat.lt_of_not_le fun q => by rw [b_big q] at hi; cases hi
      have h1 : bt (x &&& (nI (2 ^ k - 1) ^^^ (-1))) i = false := by rw [h]; exact b_0 i
      rw [b_and, b_xor, b_m1 i hlt, bs_bt hlt, hi, Nat.testBit_two_pow_sub_one] at h1
      simpa using h1
    refine ⟨x.toBitVec.toNat, ?_, ?_⟩
    · apply Nat.lt_pow_two_of_testBit
      intro i hi
      cases h2 : x.toBitVec.toNat.testBit i with
      | false => rfl
      | true =>
        have := hb i h2
        omega
    · apply b_ext
      intro i hi
      rw [bs_bt hi]
      rfl
  · rintro ⟨m, hm, rfl⟩
    have hp := Nat.two_pow_pos k
    rw [bs_sub (by omega) (by omega)]
    intro i hi
    rw [Nat.testBit_two_pow_sub_one, decide_eq_true_iff]
    apply Classical.byContradiction
    intro q
    rw [Nat.testBit_lt_two_pow (Nat.lt_of_lt_of_le hm (pw_le (by omega)))] at hi
    cases hi
/-- cells of what calls change -/
theorem CR_now {σ τ : nh_S} {S T : SP} (hC : CR σ S) (hW : WF S) (hm : CRm τ T) (hf : frC [3, 4, 5] σ τ) (ht : ∀ t, t ∉ [9, 10, 11, 12] → T t = S t) : CR τ T := by
  obtain ⟨h1, h2, h3, h4, h5, h6, h7⟩ := hC
  obtain ⟨g1, g2⟩ := hf
  have hp := h1.1
  have hl := h1.2.2.2.1
  have hp2 := hp
  have hl2 := hl
  unfold isP at hp2
  unfold isM at hl2
  refine ⟨CRr_tr h1 (by rw [g2]), ?_, hm, ?_, CRx_tr h5 (g1 30 (by decide)).2 (g1 31 (by decide)).2 (by rw [(g1 0 (by decide)).1]) (ht 1 (by decide)) (ht 13 (by decide)) (ht 14 (by decide)) (ht 15 (by decide)), CRi_tr h6 (fun k h1 h2 => g1 k (by simp; omega)) (ht 1 (by decide)) (ht 22 (by decide)) (ht 23 (by decide)) (ht 24 (by decide)) (ht 25 (by decide)) (ht 26 (by decide)), CRt_tr h7 (by rw [(g1 1 (by decide)).1]) (by rw [(g1 1 (by decide)).1]) (g1 2 (by decide)).2 (ht 19 (by decide)) (ht 20 (by decide)) (ht 21 (by decide))⟩
  · rw [g2]
    exact CRc_tr h2 hW.1 (g1 _ (by simp; omega)).1 (fun k h1 h2 => (g1 k (by simp; omega)).2) (fun t h => ht t (by simp; omega))
  · rw [g2]
    have e := CRp_tr (τ := τ) h4 (g1 _ (by simp; omega)).1 (g1 _ (by simp; omega)).2 (g1 _ (by simp; omega)).2
    unfold sPn sPa sPb at e ⊢
    rw [ht 16 (by decide), ht 17 (by decide), ht 18 (by decide)]
    exact e
theorem c_away {S : SP} {σ : nh_S} (hC : CR σ S) (hW : WF S) (x : Int32) {Q : Option Value → nh_S → Prop} (hQ : ∀ τ, CR τ (nAway S x) → Q (some (.int (aAway S x))) τ) : nh_E kX8_away 0 [some (.ref 0), some (.int x), none] [] σ Q := by
  have h9 := hW.1.1
  have hpw : 2 ^ sH S ≤ 2 ^ 9 := pw_le h9
  unfold aAway nAway at hQ
  refine sg_X8_away_0 x ⟨hC.1.1, ?_⟩
  rw [hC.2.1.1, bs_bey (by omega)]
  rcases ix_cases x (n := 2 ^ sH S) (by omega) with ⟨m, hm, rfl, e⟩ | ⟨e, hx⟩
  · rw [e] at hQ
    refine ⟨fun _ => ?_, fun c => absurd ⟨m, hm, rfl⟩ c⟩
    rw [hC.2.2.1.2.1]
    refine hQ _ (CR_now hC hW ?_ ((frC.rf _ σ).si _ _ (by decide)) (fun t ht => sUp_ne S (fun q => ht (by rw [q]; decide)) 0 0 m))
    obtain ⟨g1, g2, g3⟩ := hC.2.2.1
    refine ⟨g1, ?_, ?_⟩
    · rw [bs_geti]; rfl
    · rw [bs_geti]; exact g3
  · rw [e] at hQ
    exact ⟨fun c => absurd (fun ⟨h, hh, q⟩ => hx h hh q) c, fun _ => hQ _ hC⟩
theorem c_keepAt {S : SP} {σ : nh_S} (hC : CR σ S) (hW : WF S) (x y : Int32) {Q : Option Value → nh_S → Prop} (hQ : ∀ τ, CR τ (nKeepAt S x y) → Q (some (.int (aKeepAt S x y))) τ) : nh_E kX8_keepAt 0 [some (.ref 0), some (.int x), some (.int y), none] [] σ Q := by
  have h9 := hW.1.1
  have h12 := hW.1.2.1
  unfold aKeepAt nKeepAt at hQ
  refine sg_X8_keepAt_0 x y ⟨hC.1.1, ?_⟩
  rw [hC.2.1.1, hC.2.1.2.1, ix_cls (by omega), ix_cls (by omega)]
  rcases ix_cases x (n := sP S) (by omega) with ⟨p, hp, rfl, e⟩ | ⟨e, hx⟩
  · refine ⟨fun c => absurd ⟨p, hp, rfl⟩ c, fun _ => ?_⟩
    rcases ix_cases y (n := sH S) (by omega) with ⟨h, hh, rfl, e2⟩ | ⟨e2, hy⟩
    · rw [e, e2] at hQ
      refine ⟨fun _ => ⟨pk_in p 12 (by omega), ?_⟩, fun c => absurd ⟨h, hh, rfl⟩ c⟩
      rw [pk_cl p rfl (by omega), (hC.2.2.1.1 p hp).1]
      refine hQ _ (CR_now hC hW ?_ ((frC.rf _ σ).wa _ _ (by decide)) (fun t ht => sUp_ne S (fun q => ht (by rw [q]; decide)) p 0 h))
      obtain ⟨g1, g2, g3⟩ := hC.2.2.1
      refine ⟨fun q hq => ?_, g2, g3⟩
      rw [bs_get, bs_get, if_neg (show ¬ (5 = 4 ∧ q = p) by omega)]
      refine ⟨?_, (g1 q hq).2⟩
      show _ = nI (sUp S 9 p 0 h 9 q 0)
      rw [sUp_at]
      by_cases e : q = p
      · rw [if_pos ⟨rfl, e⟩, if_pos ⟨e, rfl⟩]
      · rw [if_neg (fun z => e z.2), if_neg (fun z => e z.1)]
        exact (g1 q hq).1
    · rw [e, e2] at hQ
      exact ⟨fun c => absurd (fun ⟨h, hh, q⟩ => hy h hh q) c, fun _ => hQ _ hC⟩
  · rw [e] at hQ
    exact ⟨fun _ => hQ _ hC, fun c => absurd (fun ⟨h, hh, q⟩ => hx h hh q) c⟩
theorem c_fit {S : SP} {σ : nh_S} (hC : CR σ S) (hW : WF S) (x y : Int32) {Q : Option Value → nh_S → Prop} (hQ : ∀ τ, CR τ (nFit S x y) → Q (some (.int (aFit S x y))) τ) : nh_E kX8_fit 0 [some (.ref 0), some (.int x), some (.int y), none] [] σ Q := by
  have h12 := hW.1.2.1
  have hpw : 2 ^ sP S ≤ 2 ^ 12 := pw_le h12
  unfold aFit nFit at hQ
  refine sg_X8_fit_0 x y ⟨hC.1.1, ?_⟩
  rw [hC.2.1.2.1, ix_cls (by omega), bs_bey (by omega)]
  rcases ix_cases x (n := sP S) (by omega) with ⟨p, hp, rfl, e⟩ | ⟨e, hx⟩
  · refine ⟨fun c => absurd ⟨p, hp, rfl⟩ c, fun _ => ?_⟩
    rcases ix_cases y (n := 2 ^ sP S) (by omega) with ⟨m, hm, rfl, e2⟩ | ⟨e2, hy⟩
    · rw [e, e2] at hQ
      refine ⟨fun _ => ⟨pk_in p 12 (by omega), ?_⟩, fun c => absurd ⟨m, hm, rfl⟩ c⟩
      rw [pk_cl p rfl (by omega), (hC.2.2.1.1 p hp).2, bs_shl (by omega), fa_or]
      refine hQ _ (CR_now hC hW ?_ ((frC.rf _ σ).wa _ _ (by decide)) (fun t ht => sUp_ne S (fun q => ht (by rw [q]; decide)) p 0 _))
      obtain ⟨g1, g2, g3⟩ := hC.2.2.1
      refine ⟨fun q hq => ?_, g2, g3⟩
      rw [bs_get, bs_get, if_neg (show ¬ (4 = 5 ∧ q = p) by omega)]
      refine ⟨(g1 q hq).1, ?_⟩
      show _ = nI (sUp S 10 p 0 (m ||| 2 ^ p) 10 q 0)
      rw [sUp_at]
      by_cases e : q = p
      · rw [if_pos ⟨rfl, e⟩, if_pos ⟨e, rfl⟩]
      · rw [if_neg (fun z => e z.2), if_neg (fun z => e z.1)]
        exact (g1 q hq).2
    · rw [e, e2] at hQ
      exact ⟨fun c => absurd (fun ⟨h, hh, q⟩ => hy h hh q) c, fun _ => hQ _ hC⟩
  · rw [e] at hQ
    exact ⟨fun _ => hQ _ hC, fun c => absurd (fun ⟨h, hh, q⟩ => hx h hh q) c⟩
theorem c_seed {S : SP} {σ : nh_S} (hC : CR σ S) (hW : WF S) (x : Int32) {Q : Option Value → nh_S → Prop} (hQ : ∀ τ, CR τ (nSeed S x) → Q (some (.int (aSeed S x))) τ) : nh_E kX8_seed 0 [some (.ref 0), some (.int x), none] [] σ Q := by
  unfold aSeed nSeed at hQ
  refine sg_X8_seed_0 x ⟨fun c => ?_, fun c => ?_⟩
  · rw [if_pos c, if_pos c] at hQ
    rw [hC.2.2.1.2.2]
    refine hQ _ (CR_now hC hW ?_ ((frC.rf _ σ).si _ _ (by decide)) (fun t ht => sUp_ne S (fun q => ht (by rw [q]; decide)) 0 0 _))
    obtain ⟨g1, g2, g3⟩ := hC.2.2.1
    refine ⟨g1, ?_, ?_⟩
    · rw [bs_geti]; exact g2
    · rw [bs_geti]
      exact (nn_of c).1
  · rw [if_neg c, if_neg c] at hQ
    exact hQ _ hC
theorem CR_xx {σ τ : nh_S} {S T : SP} (hC : CR σ S) (hW : WF S) (hm : CRx τ T) (hf : ∀ k, k ∉ [30, 31] → τ.2.1 k = σ.2.1 k) (hi : ∀ k, k ≠ 0 → τ.1 k = σ.1 k) (hr : τ.2.2 = σ.2.2) (ht : ∀ t, t ∉ [13, 14, 15] → T t = S t) : CR τ T := by
  obtain ⟨h1, h2, h3, h4, h5, h6, h7⟩ := hC
  have hp := h1.1
  have hl := h1.2.2.2.1
  unfold isP at hp
  unfold isM at hl
  refine ⟨CRr_tr h1 (by rw [hr]), ?_, CRm_tr h3 (hf 4 (by decide)) (hf 5 (by decide)) (hi 3 (by decide)) (ht 1 (by decide)) (ht 9 (by decide)) (ht 10 (by decide)) (ht 11 (by decide)) (ht 12 (by decide)), ?_, hm, CRi_tr h6 (fun k h1 h2 => ⟨hi k (by omega), hf k (by simp; omega)⟩) (ht 1 (by decide)) (ht 22 (by decide)) (ht 23 (by decide)) (ht 24 (by decide)) (ht 25 (by decide)) (ht 26 (by decide)), CRt_tr h7 (by rw [hi 1 (by decide)]) (by rw [hi 1 (by decide)]) (hf 2 (by decide)) (ht 19 (by decide)) (ht 20 (by decide)) (ht 21 (by decide))⟩
  · rw [hr]
    exact CRc_tr h2 hW.1 (hi _ (by omega)) (fun k h1 h2 => hf k (by simp; omega)) (fun t h => ht t (by simp; omega))
  · rw [hr]
    have e := CRp_tr (τ := τ) h4 (hi _ (by omega)) (hf _ (by simp; omega)) (hf _ (by simp; omega))
    unfold sPn sPa sPb at e ⊢
    rw [ht 16 (by decide), ht 17 (by decide), ht 18 (by decide)]
    exact e
theorem c_cost {S : SP} {σ : nh_S} (hC : CR σ S) (hW : WF S) (x y : Int32) {Q : Option Value → nh_S → Prop} (hQ : ∀ τ, CR τ (nCost S x y) → Q (some (.int (aCost S x y))) τ) : nh_E kX8_cost 0 [some (.ref 0), some (.int x), some (.int y), none] [] σ Q := by
  have h12 := hW.1.2.1
  unfold aCost nCost at hQ
  refine sg_X8_cost_0 x y ⟨hC.1.1, ?_⟩
  rw [hC.2.1.2.1, ix_cls (by omega)]
  rcases ix_cases x (n := sP S) (by omega) with ⟨p, hp, rfl, e⟩ | ⟨e, hx⟩
  · refine ⟨fun _ => ?_, fun c => absurd ⟨p, hp, rfl⟩ c⟩
    rcases ix_cases y (n := 100) (by omega) with ⟨c, hc, rfl, e2⟩ | ⟨e2, hy⟩
    · rw [e, e2] at hQ
      refine ⟨fun q => absurd q (nI_pos (by omega)), fun _ => ⟨fun _ => ⟨pk_in p 12 (by omega), ?_⟩, fun q => absurd (by rw [show (99 : Int32) = nI 99 from rfl]; exact nI_le (by omega) (by omega)) q⟩⟩
      rw [pk_cl p rfl (by omega), hC.2.2.2.2.1.1 p hp]
      refine hQ _ (CR_xx hC hW ?_ (fun k hk => wa_ne σ _ _ (by simp at hk; omega)) (fun _ _ => rfl) rfl (fun t ht => sUp_ne S (fun q => ht (by rw [q]; decide)) p 0 c))
      obtain ⟨g1, g2, g3⟩ := hC.2.2.2.2.1
      refine ⟨fun q hq => ?_, g2, fun q hq => ?_⟩
      · rw [bs_get]
        show _ = nI (sUp S 13 p 0 c 13 q 0)
        rw [sUp_at]
        by_cases e : q = p
        · rw [if_pos ⟨rfl, e⟩, if_pos ⟨e, rfl⟩]
        · rw [if_neg (fun z => e z.2), if_neg (fun z => e z.1)]
          exact g1 q hq
      · rw [wa_ne σ _ _ (show 31 ≠ 30 by decide)]
        exact g3 q hq
    · rw [e, e2] at hQ
      refine ⟨fun _ => hQ _ hC, fun c1 => ⟨fun c2 => ?_, fun _ => hQ _ hC⟩⟩
      exfalso
      obtain ⟨h, hh, q⟩ := (ix_lit (x := y) (n := 99) (by omega)).mp ⟨c1, fun c3 => (fa_of_lt c3).2.1 c2⟩
      exact hy h (by omega) q
  · rw [e] at hQ
    exact ⟨fun c => absurd (fun ⟨h, hh, q⟩ => hx h hh q) c, fun _ => hQ _ hC⟩
theorem c_store {S : SP} {σ : nh_S} (hC : CR σ S) (hW : WF S) (x : Int32) {Q : Option Value → nh_S → Prop} (hQ : ∀ τ, CR τ (nStore S x) → Q (some (.int (aStore S x))) τ) : nh_E kX8_store 0 [some (.ref 0), some (.int x), none] [] σ Q := by
  have h9 := hW.1.1
  unfold aStore nStore at hQ
  refine sg_X8_store_0 x ⟨hC.1.1, ?_⟩
  rw [hC.2.1.1, ix_cls (by omega)]
  rcases ix_cases x (n := sH S) (by omega) with ⟨h, hh, rfl, e⟩ | ⟨e, hx⟩
  · rw [e] at hQ
    refine ⟨fun _ => ?_, fun c => absurd ⟨h, hh, rfl⟩ c⟩
    rw [hC.2.2.2.2.1.2.1]
    refine hQ _ (CR_xx hC hW ?_ (fun _ _ => rfl) (fun k hk => si_neK σ _ _ hk) rfl (fun t ht => sUp_ne S (fun q => ht (by rw [q]; decide)) 0 0 h))
    obtain ⟨g1, g2, g3⟩ := hC.2.2.2.2.1
    exact ⟨g1, by rw [bs_geti]; rfl, g3⟩
  · rw [e] at hQ
    exact ⟨fun c => absurd (fun ⟨h, hh, q⟩ => hx h hh q) c, fun _ => hQ _ hC⟩
theorem c_log {S : SP} {σ : nh_S} (hC : CR σ S) (hW : WF S) (x y : Int32) {Q : Option Value → nh_S → Prop} (hQ : ∀ τ, CR τ (nLog S x y) → Q (some (.int (aLog S x y))) τ) : nh_E kX8_log 0 [some (.ref 0), some (.int x), some (.int y)] [] σ Q := by
  have h12 := hW.1.2.1
  unfold aLog nLog at hQ
  refine sg_X8_log_0 x y ⟨hC.1.1, ?_⟩
  rw [hC.2.1.2.1, ix_cls (by omega)]
  rcases ix_cases x (n := sP S) (by omega) with ⟨p, hp, rfl, e⟩ | ⟨e, hx⟩
  · refine ⟨fun _ => ?_, fun c => absurd ⟨p, hp, rfl⟩ c⟩
    rcases ix_cases y (n := 1000) (by omega) with ⟨m, hm, rfl, e2⟩ | ⟨e2, hy⟩
    · rw [e, e2] at hQ
      dsimp only at hQ
      refine ⟨fun q => absurd q (nI_pos (by omega)), fun _ => ⟨fun _ => ⟨pk_in p 12 (by omega), ?_⟩, fun q => absurd (by rw [show (999 : Int32) = nI 999 from rfl]; exact nI_le (by omega) (by omega)) q⟩⟩
      rw [pk_cl p rfl (by omega)]
      have hg : ∀ q, sLg (sUp S 15 p 0 (m + 1)) q = if q = p then m + 1 else sLg S q := fun q => by unfold sLg; rw [sUp_at]; simp
      obtain ⟨g1, g2, g3⟩ := hC.2.2.2.2.1
      have e1 : sP (sUp S 15 p 0 (m + 1)) = sP S := by unfold sP; rw [sUp_ne _ (by omega)]
      have e13 : ∀ q, sCs (sUp S 15 p 0 (m + 1)) q = sCs S q := fun q => by unfold sCs; rw [sUp_ne _ (by omega)]
      have e14 : sSt (sUp S 15 p 0 (m + 1)) = sSt S := by unfold sSt; rw [sUp_ne _ (by omega)]
      have hx' : CRx (nh_wa σ 31 p (nI m)) (sUp S 15 p 0 (m + 1)) := by
        unfold CRx
        rw [e1, e14]
        refine ⟨fun q hq => ?_, g2, fun q hq => ?_⟩
        · rw [wa_ne σ _ _ (show 30 ≠ 31 by decide), e13]
          exact g1 q hq
        · rw [bs_get]
          unfold lgo
          rw [hg]
          by_cases e : q = p
          · rw [if_pos ⟨rfl, e⟩, if_pos e, if_neg (by omega)]; rfl
          · rw [if_neg (fun z => e z.2), if_neg e]
            exact g3 q hq
      have ht : ∀ t, t ∉ [13, 14, 15] → sUp S 15 p 0 (m + 1) t = S t := fun t ht => sUp_ne S (fun q => ht (by rw [q]; decide)) p 0 _
      generalize sUp S 15 p 0 (m + 1) = U at hQ hg e1 e13 e14 hx' ht
      have hu : CR (nh_wa σ 31 p (nI m)) U := CR_xx hC hW hx' (fun k hk => wa_ne σ _ _ (by simp at hk; omega)) (fun _ _ => rfl) rfl ht
      have h31 : ∀ q, q < sP U → ((nh_wa σ 31 p (nI m)).2.1 31 q = -1 ↔ sLg U q = 0) := by
        intro q hq
        rw [hx'.2.2 q hq]
        rw [e1] at hq
        unfold lgo
        rw [hg]
        by_cases e : q = p
        · rw [if_pos e, if_neg (by omega)]
          exact ⟨fun z => absurd z (ot_m1 (by omega)), fun z => absurd z (by omega)⟩
        · rw [if_neg e]
          exact lgo_m1 hW hq
      exact c_countLogged hu.1.1 hu.2.1.2.1 (by rw [e1]; exact h12) h31 ⟨_, rfl, hQ _ hu⟩
    · rw [e, e2] at hQ
      refine ⟨fun _ => hQ _ hC, fun c1 => ⟨fun c2 => ?_, fun _ => hQ _ hC⟩⟩
      exfalso
      obtain ⟨h, hh, q⟩ := (ix_lit (x := y) (n := 999) (by omega)).mp ⟨c1, fun c3 => (fa_of_lt c3).2.1 c2⟩
      exact hy h (by omega) q
  · rw [e] at hQ
    exact ⟨fun c => absurd (fun ⟨h, hh, q⟩ => hx h hh q) c, fun _ => hQ _ hC⟩
theorem c_clear {S : SP} {σ : nh_S} (hC : CR σ S) (hW : WF S) {Q : Option Value → nh_S → Prop} (hQ : ∀ τ, CR τ (nClear S) → Q (some (.int (nI (pop (lgm S))))) τ) : nh_E kX8_clear 0 [some (.ref 0), none] [] σ Q := by
  have h12 := hW.1.2.1
  refine sg_X8_clear_0 ?_
  refine c_countLogged hC.1.1 hC.2.1.2.1 h12 (fun p hp => by rw [hC.2.2.2.2.1.2.2 p hp]; exact lgo_m1 hW hp) ⟨_, rfl, ?_⟩
  refine c_fill (a0 := 31) (n0 := 12) rfl (by omega) _ (fun τ t1 t2 t3 t4 => ⟨rfl, hQ τ ?_⟩)
  obtain ⟨g1, g2, g3⟩ := hC.2.2.2.2.1
  have e0 : ∀ q, sLg (nClear S) q = 0 := fun q => by unfold sLg nClear; rw [sTag_at]
  refine CR_xx hC hW ⟨fun q hq => ?_, by rw [t1]; exact g2, fun q hq => ?_⟩ (fun k hk => t3 k (by simp at hk; omega)) (fun k _ => by rw [t1]) t2 (fun t ht => sTag_ne S (fun q => ht (by rw [q]; decide)) _)
  · rw [t3 30 (by omega)]
    exact g1 q hq
  · have hq2 : q < sP S := hq
    rw [t4 q (by omega)]
    unfold lgo
    rw [e0, if_pos rfl]
    rfl
