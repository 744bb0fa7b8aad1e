/-! THE CLASS: images, draws -/
theorem bs_cp (σ : nh_S) (k0 k1 sp dp n k' j : Nat) : (nh_cp σ k0 k1 sp dp n).2.1 k' j = if k' = k1 ∧ dp ≤ j ∧ j < dp + n then σ.2.1 k0 (sp + (j - dp)) else σ.2.1 k' j := by
  unfold nh_cp nh_sa
  by_cases h : k' = k1
  · subst h
    simp [va_cpy]
  · simp [h]
theorem frC.cp {ks : List Nat} {σ τ : nh_S} (h : frC ks σ τ) {k0 k1 : Nat} (sp dp n : Nat) (hk : k1 ∈ ks) : frC ks σ (nh_cp τ k0 k1 sp dp n) := ⟨fun j hj => ⟨(h.1 j hj).1, by funext i; rw [bs_cp, if_neg (fun e => hj (by rw [e.1]; exact hk)), (h.1 j hj).2]⟩, h.2⟩
theorem c_becomes {o o1 : Nat} (ho : isN o) (ho1 : isN o1) (hne : o ≠ o1) {σ : nh_S} {Q : Option Value → nh_S → Prop} (hQ : ∀ τ, frC [o, o + 1, o + 2] σ τ → (∀ p, p < 12 → τ.2.1 (o + 1) p = σ.2.1 (o1 + 1) p ∧ τ.2.1 (o + 2) p = σ.2.1 (o1 + 2) p) → τ.1 o 2 = σ.1 o1 2 → τ.1 o 3 = σ.1 o1 3 → (∀ j, j ≠ 2 → j ≠ 3 → τ.1 o j = σ.1 o j) → Q none τ) : nh_E kX2_becomes 0 [some (.ref o), some (.ref o1)] [] σ Q := by
  have d1 := ho
  have d2 := ho1
  unfold isN at d1 d2
  have e0 : (0 : Int32).toNatClampNeg = 0 := rfl
  have e12 : (12 : Int32).toNatClampNeg = 12 := rfl
  refine sg_X2_becomes_0 ho ho1 ⟨by decide, by decide, ?_⟩
  rw [e0, e12]
  refine hQ _ (((((frC.rf _ σ).cp _ _ _ (by simp)).cp _ _ _ (by simp)).si _ _ (by simp)).si _ _ (by simp)) (fun p hp => ⟨?_, ?_⟩) ?_ ?_ (fun j h1 h2 => ?_)
  · show (nh_cp (nh_cp σ (o1 + 1) (o + 1) 0 0 12) (o1 + 2) (o + 2) 0 0 12).2.1 (o + 1) p = _
    rw [bs_cp, if_neg (by omega), bs_cp, if_pos (by omega)]
    simp
  · show (nh_cp (nh_cp σ (o1 + 1) (o + 1) 0 0 12) (o1 + 2) (o + 2) 0 0 12).2.1 (o + 2) p = _
    rw [bs_cp, if_pos (by omega), bs_cp, if_neg (by omega)]
    simp
  · rw [bs_geti, if_neg (by omega), bs_geti, if_pos ⟨rfl, rfl⟩]
  · rw [bs_geti, if_pos ⟨rfl, rfl⟩, bs_geti, if_neg (by omega)]
    rfl
  · rw [bs_geti, if_neg (by omega), bs_geti, if_neg (by omega)]
    rfl
theorem c_keep_at {S : SP} {σ : nh_S} (hC : CR σ S) (hW : WF S) {i : Nat} (hi : i < 2) {Q : Option Value → nh_S → Prop} (hQ : ∀ τ, CR τ (nKeep S (nI i)) → Q (some (.int 1)) τ) : nh_E kX2_becomes 0 [some (.ref (6 + 3 * i)), some (.ref 3)] [] σ (nh_qv fun τ => Q (some (.int 1)) (nh_si τ (6 + 3 * i) 4 1)) := by
  have h12 := hW.1.2.1
  have hN : isN (6 + 3 * i) := by unfold isN; omega
  unfold nKeep at hQ
  rw [ix_nI hi (by omega)] at hQ
  refine c_becomes hN isN_3 (by omega) (fun τ t1 t2 t3 t4 t5 => ⟨rfl, hQ _ ?_⟩)
  obtain ⟨h1, h2, h3, h4, h5, h6, h7⟩ := hC
  have ht : ∀ t, t ∉ [22, 23, 24, 25, 26] → (fun a b => if t = 22 ∧ a = i ∧ b = 0 then 1 else if t = 23 ∧ a = i then S 9 b 0 else if t = 24 ∧ a = i then S 10 b 0 else if t = 25 ∧ a = i ∧ b = 0 then S 11 0 0 else if t = 26 ∧ a = i ∧ b = 0 then S 12 0 0 else S t a b) = S t := by
    intro t ht
    funext a b
    simp at ht
    simp [ht]
  have f : frC [6 + 3 * i, 6 + 3 * i + 1, 6 + 3 * i + 2] σ (nh_si τ (6 + 3 * i) 4 1) := t1.si _ _ (by simp)
  have g1 := f.1
  have g2 := f.2
  have hp := h1.1
  have hl := h1.2.2.2.1
  unfold isP at hp
  unfold isM at hl
  refine ⟨CRr_tr h1 (by rw [g2]), ?_, CRm_tr h3 (g1 4 (by simp; omega)).2 (g1 5 (by simp; omega)).2 (g1 3 (by simp; omega)).1 (ht 1 (by decide)) (ht 9 (by decide)) (ht 10 (by decide)) (ht 11 (by decide)) (ht 12 (by decide)), ?_, CRx_tr h5 (g1 30 (by simp; omega)).2 (g1 31 (by simp; omega)).2 (by rw [(g1 0 (by simp; omega)).1]) (ht 1 (by decide)) (ht 13 (by decide)) (ht 14 (by decide)) (ht 15 (by decide)), ?_, CRt_tr h7 (by rw [(g1 1 (by simp; omega)).1]) (by rw [(g1 1 (by simp; omega)).1]) (g1 2 (by simp; omega)).2 (ht 19 (by decide)) (ht 20 (by decide)) (ht 21 (by decide))⟩
  · rw [g2]
    exact CRc_tr h2 hW.1 (g1 _ (by simp; omega)).1 (fun k h1 h2 => (g1 k (by simp; omega)).2) (fun t h => ht t (by simp; omega))
  · rw [g2]
    have e := CRp_tr (τ := nh_si τ (6 + 3 * i) 4 1) h4 (g1 _ (by simp; omega)).1 (g1 _ (by simp; omega)).2 (g1 _ (by simp; omega)).2
    have e16 := ht 16 (by decide)
    have e17 := ht 17 (by decide)
    have e18 := ht 18 (by decide)
    unfold sPn sPa sPb at e ⊢
    simp only [e16, e17, e18]
    exact e
  · intro j hj
    by_cases ej : j = i
    · subst ej
      refine ⟨?_, fun _ => ⟨fun p hp => ?_, ?_, ?_⟩⟩
      · rw [bs_geti, if_pos ⟨rfl, rfl⟩]
        simp [sIm]
        rfl
      · have hp2 : p < sP S := by simpa [sP] using hp
        obtain ⟨q1, q2⟩ := t2 p (by omega)
        show τ.2.1 _ p = _ ∧ τ.2.1 _ p = _
        rw [q1, q2]
        simpa [sIk, sIf] using h3.1 p hp2
      · rw [bs_geti, if_neg (by omega), t3]
        simpa [sIa] using h3.2.1
      · rw [bs_geti, if_neg (by omega), t4]
        simpa [sIs] using h3.2.2
    · obtain ⟨w1, w2⟩ := h6 j hj
      refine ⟨?_, fun q => ?_⟩
      · rw [(g1 (6 + 3 * j) (by simp; omega)).1]
        simpa [sIm, ej] using w1
      · have q2 : sIm S j = 1 := by simpa [sIm, ej] using q
        obtain ⟨g3, g4, g5⟩ := w2 q2
        rw [(g1 (6 + 3 * j) (by simp; omega)).1, (g1 (6 + 3 * j + 1) (by simp; omega)).2, (g1 (6 + 3 * j + 2) (by simp; omega)).2]
        refine ⟨fun p hp => ?_, ?_, ?_⟩
        · have hp2 : p < sP S := by simpa [sP] using hp
          simpa [sIk, sIf, ej] using g3 p hp2
        · simpa [sIa, ej] using g4
        · simpa [sIs, ej] using g5
theorem c_keep {S : SP} {σ : nh_S} (hC : CR σ S) (hW : WF S) (x : Int32) {Q : Option Value → nh_S → Prop} (hQ : ∀ τ, CR τ (nKeep S x) → Q (some (.int (aKeep x))) τ) : nh_E kX8_keep 0 [some (.ref 0), some (.int x), none] [] σ Q := by
  refine sg_X8_keep_0 x ?_
  rcases ix_cases x (n := 2) (by omega) with ⟨i, hi, rfl, e⟩ | ⟨e, hx⟩
  · have ea : aKeep (nI i) = 1 := by unfold aKeep; rw [e]
    rw [ea] at hQ
    refine ⟨fun q => absurd q (nI_pos (by omega)), fun _ => ⟨fun _ => ⟨fun c => ?_, fun c => ?_⟩, fun q => absurd (by rw [show (2 : Int32) = nI 2 from rfl]; exact nI_lt hi (by omega)) q⟩⟩
    · have e1 : i = 1 := by
        rcases (show i = 0 ∨ i = 1 by omega) with rfl | rfl
        · exact absurd rfl c
        · rfl
      subst e1
      exact c_keep_at hC hW (i := 1) (by omega) hQ
    · have e1 : i = 0 := (nI_eq (by omega) (by omega)).mp c
      subst e1
      exact c_keep_at hC hW (i := 0) (by omega) hQ
  · have ea : aKeep x = -1000001 := by unfold aKeep; rw [e]
    have en : nKeep S x = S := by unfold nKeep; rw [e]
    rw [ea, en] at hQ
    refine ⟨fun _ => hQ _ hC, fun c1 => ⟨fun c2 => ?_, fun _ => hQ _ hC⟩⟩
    exfalso
    obtain ⟨h, hh, q⟩ := (ix_lit (x := x) (n := 1) (by omega)).mp ⟨c1, fun c3 => by
      rw [Int32.lt_iff_toInt_lt] at c2 c3
      rw [show (nI 1).toInt = 1 from rfl] at c3
      rw [show (2 : Int32).toInt = 2 from rfl] at c2
      omega⟩
    exact hx h (by omega) q
theorem c_goBack_at {S : SP} {σ : nh_S} (hC : CR σ S) (hW : WF S) {i : Nat} (hi : i < 2) (h1 : sIm S i = 1) {Q : Option Value → nh_S → Prop} (hQ : ∀ τ, CR τ (nGoBack S (nI i)) → Q (some (.int 1)) τ) : nh_E kX2_becomes 0 [some (.ref 3), some (.ref (6 + 3 * i))] [] σ (nh_qv fun τ => Q (some (.int 1)) τ) := by
  have h12 := hW.1.2.1
  have hN : isN (6 + 3 * i) := by unfold isN; omega
  unfold nGoBack at hQ
  rw [ix_nI hi (by omega)] at hQ
  dsimp only at hQ
  rw [if_pos h1] at hQ
  refine c_becomes isN_3 hN (by omega) (fun τ t1 t2 t3 t4 t5 => ⟨rfl, hQ _ (CR_now hC hW ?_ t1 (fun t ht => ?_))⟩)
  · obtain ⟨-, k2⟩ := hC.2.2.2.2.2.1 i hi
    obtain ⟨k3, k4, k5⟩ := k2 h1
    refine ⟨fun p hp => ?_, ?_, ?_⟩
    · have hp2 : p < sP S := by simpa [sP] using hp
      obtain ⟨q1, q2⟩ := t2 p (by omega)
      rw [show (4 : Nat) = 3 + 1 from rfl, show (5 : Nat) = 3 + 2 from rfl, q1, q2]
      simpa [sKp, sFt, sIk, sIf] using k3 p hp2
    · rw [t3]
      simpa [sAw, sIa] using k4
    · rw [t4]
      simpa [sSd, sIs] using k5
  · funext a b
    simp at ht
    simp [ht]
theorem c_goBack {S : SP} {σ : nh_S} (hC : CR σ S) (hW : WF S) (x : Int32) {Q : Option Value → nh_S → Prop} (hQ : ∀ τ, CR τ (nGoBack S x) → Q (some (.int (aGoBack S x))) τ) : nh_E kX8_goBack 0 [some (.ref 0), some (.int x), none] [] σ Q := by
  refine sg_X8_goBack_0 x ?_
  rcases ix_cases x (n := 2) (by omega) with ⟨i, hi, rfl, e⟩ | ⟨e, hx⟩
  · have him := (hW.2.2.2.2.1 i hi).1
    have hz := (hC.2.2.2.2.2.1 i hi).1
    have ea : aGoBack S (nI i) = if sIm S i = 1 then 1 else -1000003 := by unfold aGoBack; rw [e]
    have hno : ¬ sIm S i = 1 → nGoBack S (nI i) = S := fun q => by unfold nGoBack; rw [e]; dsimp only; rw [if_neg q]
    rw [ea] at hQ
    have hzz : (nI (sIm S i) = 0) ↔ ¬ sIm S i = 1 := by
      rw [show (0 : Int32) = nI 0 from rfl, nI_eq (by omega) (by omega)]
      omega
    refine ⟨fun q => absurd q (nI_pos (by omega)), fun _ => ⟨fun _ => ⟨fun c => ?_, fun c => ?_⟩, fun q => absurd (by rw [show (2 : Int32) = nI 2 from rfl]; exact nI_lt hi (by omega)) q⟩⟩
    · have e1 : i = 1 := by
        rcases (show i = 0 ∨ i = 1 by omega) with rfl | rfl
        · exact absurd rfl c
        · rfl
      subst e1
      rw [show σ.1 9 4 = nI (sIm S 1) from hz, hzz]
      refine ⟨fun q => ?_, fun q => ?_⟩
      · have q := Classical.not_not.mp q
        rw [if_pos q] at hQ
        exact c_goBack_at hC hW (i := 1) (by omega) q hQ
      · rw [if_neg q, hno q] at hQ
        exact hQ _ hC
    · have e1 : i = 0 := (nI_eq (by omega) (by omega)).mp c
      subst e1
      rw [show σ.1 6 4 = nI (sIm S 0) from hz, hzz]
      refine ⟨fun q => ?_, fun q => ?_⟩
      · have q := Classical.not_not.mp q
        rw [if_pos q] at hQ
        exact c_goBack_at hC hW (i := 0) (by omega) q hQ
      · rw [if_neg q, hno q] at hQ
        exact hQ _ hC
  · have ea : aGoBack S x = -1000001 := by unfold aGoBack; rw [e]
    have en : nGoBack S x = S := by unfold nGoBack; rw [e]
    rw [ea, en] at hQ
    refine ⟨fun _ => hQ _ hC, fun c1 => ⟨fun c2 => ?_, fun _ => hQ _ hC⟩⟩
    exfalso
    obtain ⟨h, hh, q⟩ := (ix_lit (x := x) (n := 1) (by omega)).mp ⟨c1, fun c3 => by
      rw [Int32.lt_iff_toInt_lt] at c2 c3
      rw [show (nI 1).toInt = 1 from rfl] at c3
      rw [show (2 : Int32).toInt = 2 from rfl] at c2
      omega⟩
    exact hx h (by omega) q
theorem drw_cls {s : Nat} (hs : s < 2 ^ 31) : ((((nI s).toInt64 * 1103515245) + 12345) &&& 2147483647).toInt32 = nI (drw s) := by
  have e : (nI s).toInt64 * 1103515245 + 12345 = lN (s * 1103515245 + 12345) := by
    rw [nI_l hs, show (1103515245 : Int64) = lN 1103515245 from rfl, lN_mul, show (12345 : Int64) = lN 12345 from rfl, lN_add]
  rw [e, show (2147483647 : Int64) = lN (2 ^ 31 - 1) from rfl, fb_maskL, lN_i]
  rfl
theorem c_draw {s : Nat} {σ : nh_S} (hs : σ.1 3 3 = nI s) (hlt : s < 2 ^ 31) {Q : Option Value → nh_S → Prop} (hQ : Q (some (.int (nI (drw s / 65536 % 100)))) (nh_si σ 3 3 (nI (drw s)))) : nh_E kX2_draw 0 [some (.ref 3), some (.int 100)] [] σ Q := by
  refine sg_X2_draw_0 isN_3 _ ⟨by decide, ?_⟩
  have hd := drw_lt s
  rw [hs, drw_cls hlt, bs_geti, if_pos ⟨rfl, rfl⟩, if_neg (by decide), show (65536 : Int32) = nI 65536 from rfl, pk_div hd (by omega) (by omega), show (100 : Int32) = nI 100 from rfl, pk_rem (by omega) (by omega) (by omega)]
  exact hQ
theorem CR_sd {σ : nh_S} {S : SP} (hC : CR σ S) (hW : WF S) (v : Nat) : CR (nh_si σ 3 3 (nI v)) (sUp S 12 0 0 v) := by
  refine CR_now hC hW ?_ ((frC.rf _ σ).si _ _ (by decide)) (fun t ht => sUp_ne S (fun q => ht (by rw [q]; decide)) 0 0 _)
  obtain ⟨g1, g2, g3⟩ := hC.2.2.1
  exact ⟨g1, by rw [bs_geti]; exact g2, by rw [bs_geti]; rfl⟩
theorem CR_aw {σ : nh_S} {S : SP} (hC : CR σ S) (hW : WF S) (v : Nat) : CR (nh_si σ 3 2 (nI v)) (sUp S 11 0 0 v) := by
  refine CR_now hC hW ?_ ((frC.rf _ σ).si _ _ (by decide)) (fun t ht => sUp_ne S (fun q => ht (by rw [q]; decide)) 0 0 _)
  obtain ⟨g1, g2, g3⟩ := hC.2.2.1
  exact ⟨g1, by rw [bs_geti]; rfl, by rw [bs_geti]; exact g3⟩
/-- the mask grows, or not -/
theorem bs_mkT (f : Nat → Bool) {p : Nat} (hp : p < 30) (h : f p = true) : nI (mk f p) ||| ((1 : Int32) <<< (nI p &&& 31)) = nI (mk f (p + 1)) := by
  have e := bs_mk f hp (c := True) (by simp [h])
  rw [if_pos trivial] at e
  exact e
theorem bs_mkF (f : Nat → Bool) {p : Nat} (h : f p = false) : mk f (p + 1) = mk f p := by
  rw [mk, h]
  rfl
theorem WF_sd {S : SP} (hW : WF S) {v : Nat} (hv : v < 2 ^ 31) : WF (sUp S 12 0 0 v) := by
  obtain ⟨w1, w2, w3, w4, w5, w6⟩ := hW
  have g : ∀ t, t ≠ 12 → sUp S 12 0 0 v t = S t := fun t ht => sUp_ne S ht 0 0 v
  refine ⟨WFc_tr w1 (fun t h => g t (by omega)), ?_, WFp_tr w3 (g 0 (by decide)) (g 16 (by decide)) (g 17 (by decide)) (g 18 (by decide)), WFx_tr w4 (g 0 (by decide)) (g 1 (by decide)) (g 13 (by decide)) (g 14 (by decide)) (g 15 (by decide)), WFi_tr w5 (g 0 (by decide)) (g 1 (by decide)) (g 22 (by decide)) (g 23 (by decide)) (g 24 (by decide)) (g 25 (by decide)) (g 26 (by decide)), WFt_tr w6 (g 19 (by decide)) (g 20 (by decide)) (g 21 (by decide))⟩
  unfold WFm at w2 ⊢
  simp only [sH, sP, sKp, sFt, sAw, sSd] at w2 ⊢
  rw [g 0 (by decide), g 1 (by decide), g 9 (by decide), g 10 (by decide), g 11 (by decide), sUp_at]
  exact ⟨w2.1, w2.2.1, by simpa using hv⟩
theorem c_night {S : SP} {σ : nh_S} (hC : CR σ S) (hW : WF S) (x : Int32) {Q : Option Value → nh_S → Prop} (hQ : ∀ τ, CR τ (nNight S x) → Q (some (.int (aNight S x))) τ) : nh_E kX8_night 0 [some (.ref 0), some (.int x), none, none] [] σ Q := by
  have h9 := hW.1.1
  unfold nNight aNight at hQ
  refine sg_X8_night_0 x ?_
  rcases ix_cases x (n := 4) (by omega) with ⟨q, hq, rfl, e⟩ | ⟨e, hx⟩
  · rw [e] at hQ
    dsimp only at hQ
    refine ⟨fun z => absurd z (nI_pos (by omega)), fun _ => ⟨fun _ => ?_, fun z => absurd (by rw [show (4 : Int32) = nI 4 from rfl]; exact nI_lt hq (by omega)) z⟩⟩
    refine nh_loop (α := nh_S) (fun i τ => nh_E kX8_night 16 [some (.ref 0), some (.int (nI q)), some (.int (nI (mk (ngt S q) i))), some (.int (nI i))] [] τ Q) (fun i τ => CR τ (sUp S 12 0 0 (sdq S i))) (sH S) ?_ ?_ (sH S) 0 σ (by omega) (by show CR σ (sUp S 12 0 0 (sSd S)); rw [sUp_same]; exact hC)
    · intro τ hCt
      refine sg_X8_night_16 _ _ _ ⟨hCt.1.1, pk_le (sH S) (sH S) (fun _ => ?_) (fun c => by omega) hCt.2.1.1 rfl⟩
      exact hQ _ (CR_aw hCt (WF_sd hW (sdq_lt hW _)) _)
    · intro i τ hi hCt ih
      have hsd := sdq_lt hW i
      have hWt := WF_sd hW hsd
      refine sg_X8_night_16 _ _ _ ⟨hCt.1.1, pk_le (sH S) i (fun c => by omega) (fun c => ?_) hCt.2.1.1 rfl⟩
      refine c_draw (s := sdq S i) hCt.2.2.1.2.2 hsd ⟨_, rfl, ?_⟩
      have hCn := CR_sd hCt hWt (drw (sdq S i))
      rw [sUp_two] at hCn
      have hod := (hW.1.2.2.2.1 i hi).2.2 q hq
      have hrd : (nh_si τ 3 3 (nI (drw (sdq S i)))).2.1 ((nh_si τ 3 3 (nI (drw (sdq S i)))).2.2 0 11 + 4 + q) i = nI (sOd S q i) := (hCn.2.1.2.2.2.2 i hi).2.2 q hq
      have hd := drw_lt (sdq S i)
      refine ⟨hCn.1.1, pk_in q 4 hq, pk_in i 9 (by omega), ?_⟩
      rw [pk_cl q rfl (by omega), pk_cl i rfl (by omega), hrd, nI_1]
      refine pk_le (sOd S q i) (drw (sdq S i) / 65536 % 100) (fun c2 => ?_) (fun c2 => ?_)
      · have hb : ngt S q i = false := decide_eq_false (show ¬ drw (sdq S i) / 65536 % 100 < sOd S q i by omega)
        have := ih _ hCn
        rw [bs_mkF _ hb] at this
        exact this
      · have hb : ngt S q i = true := decide_eq_true (show drw (sdq S i) / 65536 % 100 < sOd S q i by omega)
        rw [bs_mkT _ (by omega) hb]
        exact ih _ hCn
  · rw [e] at hQ
    refine ⟨fun _ => hQ _ hC, fun c1 => ⟨fun c2 => ?_, fun _ => hQ _ hC⟩⟩
    exfalso
    obtain ⟨h, hh, q⟩ := (ix_lit (x := x) (n := 3) (by omega)).mp ⟨c1, fun c3 => by
      rw [Int32.lt_iff_toInt_lt] at c2 c3
      rw [show (nI 3).toInt = 3 from rfl] at c3
      rw [show (4 : Int32).toInt = 4 from rfl] at c2
      omega⟩
    exact hx h (by omega) q
