/-! THE CLASS: waking -/
/-- what Waking holds of who is awake and what sets out -/
def WK (τ : nh_S) (S : SP) (x : (Nat → Option Nat) × (Nat → Option (Nat × Nat))) : Prop := (∀ h, h < sH S → τ.2.1 13 h = ot (x.1 h)) ∧ (∀ h, h < sH S → τ.2.1 14 h = ot (match x.1 h with | some t => some t | none => (x.2 h).map (·.1))) ∧ ∀ h, h < sH S → (∀ t, x.1 h = some t → τ.2.1 15 h = nI h) ∧ (x.1 h = none → ∀ y, x.2 h = some y → τ.2.1 15 h = nI y.2)
def QL (τ : nh_S) (S : SP) (L : List Nat) (W : Nat → Option Nat) : Prop := τ.1 12 4 = nI L.length ∧ (∀ k b, L[k]? = some b → τ.2.1 16 k = nI b) ∧ L.Nodup ∧ (∀ h ∈ L, h < sH S) ∧ ∀ h, h < sH S → ((W h).isSome = true ↔ h ∈ L)
theorem nd_len {L : List Nat} {m : Nat} (hd : L.Nodup) (hm : ∀ x ∈ L, x < m) : L.length ≤ m := by
  refine fb_holes m L.length (fun i => L.getD i 0) (fun i hi => ?_) (fun i j hij hj e => ?_)
  · have hm2 := hm (L[i]) (List.getElem_mem hi)
    rw [List.getD_eq_getElem?_getD, List.getElem?_eq_getElem hi]
    exact hm2
  · have hi : i < L.length := by omega
    rw [List.getD_eq_getElem?_getD, List.getElem?_eq_getElem hi, List.getD_eq_getElem?_getD, List.getElem?_eq_getElem hj] at e
    have h := List.pairwise_iff_getElem.mp hd i j hi hj hij
    exact h e
theorem c_rouse {S : SP} {σ : nh_S} (h9 : sH S ≤ 9) {L : List Nat} {W : Nat → Option Nat} {E : Nat → Option (Nat × Nat)} (hQ1 : QL σ S L W) (hK : WK σ S (W, E)) {b v : Nat} (hb : b < sH S) (hn : W b = none) {Q : Option Value → nh_S → Prop} (hQ : ∀ τ, frC [12, 13, 14, 15, 16] σ τ → QL τ S (L ++ [b]) (upO W b (some v)) → WK τ S (upO W b (some v), E) → Q none τ) : nh_E kX7_rouse 0 [some (.ref 12), some (.int (nI b)), some (.int (nI v))] [] σ Q := by
  obtain ⟨q1, q2, q3, q4, q5⟩ := hQ1
  obtain ⟨k1, k2, k3⟩ := hK
  have hbL : b ∉ L := fun q => by
    have := (q5 b hb).mpr q
    rw [hn] at this
    cases this
  have hd : (L ++ [b]).Nodup := by
    rw [List.nodup_append]
    refine ⟨q3, by simp, fun x hx y hy => ?_⟩
    rw [List.mem_singleton] at hy
    rintro rfl
    exact hbL (hy ▸ hx)
  have hm : ∀ x ∈ L ++ [b], x < sH S := fun x hx => by
    rw [List.mem_append, List.mem_singleton] at hx
    rcases hx with q | rfl
    · exact q4 x q
    · exact hb
  have hlen := nd_len hd hm
  rw [List.length_append, List.length_singleton] at hlen
  refine sg_X7_rouse_0 _ _ ?_
  rw [q1]
  refine pk_lt L.length 9 (fun _ => ⟨pk_in b 9 (by omega), pk_in L.length 9 (by omega), ?_⟩) (fun c => by omega)
  rw [pk_cl b rfl (by omega), pk_cl L.length rfl (by omega), nI_1]
  refine hQ _ (((((((frC.rf _ σ).wa _ _ (by decide)).wa _ _ (by decide)).wa _ _ (by decide)).wa _ _ (by decide)).si _ _ (by decide))) ⟨?_, fun k c hk => ?_, hd, hm, fun h hh => ?_⟩ ⟨fun h hh => ?_, fun h hh => ?_, fun h hh => ?_⟩
  · rw [bs_geti, if_pos ⟨rfl, rfl⟩, List.length_append, List.length_singleton]
  · show (nh_wa (nh_wa (nh_wa (nh_wa σ 13 b (nI v)) 14 b (nI v)) 15 b (nI b)) 16 L.length (nI b)).2.1 16 k = _
    rw [bs_get]
    rcases Nat.lt_trichotomy k L.length with q | q | q
    · rw [if_neg (by omega), wa_ne _ _ _ (by omega), wa_ne _ _ _ (by omega), wa_ne _ _ _ (by omega)]
      rw [List.getElem?_append_left q] at hk
      exact q2 k c hk
    · subst q
      rw [List.getElem?_append_right (Nat.le_refl _)] at hk
      simp at hk
      rw [if_pos ⟨rfl, rfl⟩, hk]
    · rw [List.getElem?_eq_none (by rw [List.length_append, List.length_singleton]; omega)] at hk
      cases hk
  · unfold upO
    rw [List.mem_append, List.mem_singleton]
    by_cases e : h = b
    · rw [if_pos e]; simp [e]
    · rw [if_neg e, q5 h hh]
      simp [e]
  · show (nh_wa (nh_wa (nh_wa (nh_wa σ 13 b (nI v)) 14 b (nI v)) 15 b (nI b)) 16 L.length (nI b)).2.1 13 h = _
    rw [wa_ne _ _ _ (by omega), wa_ne _ _ _ (by omega), wa_ne _ _ _ (by omega), bs_get]
    unfold upO
    by_cases e : h = b
    · rw [if_pos ⟨rfl, e⟩]; simp [e]; rfl
    · rw [if_neg (fun z => e z.2)]; simp [e]; exact k1 h hh
  · show (nh_wa (nh_wa (nh_wa (nh_wa σ 13 b (nI v)) 14 b (nI v)) 15 b (nI b)) 16 L.length (nI b)).2.1 14 h = _
    rw [wa_ne _ _ _ (by omega), wa_ne _ _ _ (by omega), bs_get]
    unfold upO
    by_cases e : h = b
    · rw [if_pos ⟨rfl, e⟩]; simp [e]; rfl
    · rw [if_neg (fun z => e z.2), wa_ne _ _ _ (by omega)]; simp [e]; exact k2 h hh
  · show (∀ t, upO W b (some v) h = some t → (nh_wa (nh_wa (nh_wa (nh_wa σ 13 b (nI v)) 14 b (nI v)) 15 b (nI b)) 16 L.length (nI b)).2.1 15 h = nI h) ∧ (upO W b (some v) h = none → ∀ y, E h = some y → (nh_wa (nh_wa (nh_wa (nh_wa σ 13 b (nI v)) 14 b (nI v)) 15 b (nI b)) 16 L.length (nI b)).2.1 15 h = nI y.2)
    rw [wa_ne _ _ _ (by omega), bs_get, wa_ne _ _ _ (by omega), wa_ne _ _ _ (by omega)]
    unfold upO
    by_cases e : h = b
    · rw [if_pos e, if_pos ⟨rfl, e⟩, e]
      exact ⟨fun _ _ => rfl, fun q => by cases q⟩
    · rw [if_neg e, if_neg (fun z => e z.2)]
      exact k3 h hh
theorem c_taken {S : SP} {σ : nh_S} {o1 o2 : Nat} (ho1 : isP o1) (ho2 : isL o2) (hH : σ.1 o1 0 = nI (sH S)) (h9 : sH S ≤ 9) {W : Nat → Option Nat} {E : Nat → Option (Nat × Nat)} {k t p : Nat} (hk : k < 2 ^ 31) (hK : WK σ S (W, E)) (hn : ∀ h, h < sH S → k.testBit h = true → W h = none) {Q : Option Value → nh_S → Prop}
    (hQ : ∀ τ, frC [14, 15] σ τ → WK τ S (W, fun h => if k.testBit h = true then some (t, p) else E h) → Q none τ) : nh_E kX7_goRound 138 [some (.ref 12), some (.ref o1), none, none, none, none, some (.int (nI p)), some (.int (nI t)), some (.int (nI k)), some (.int 0), none] [] σ Q := by
  have d1 := ho1
  unfold isP at d1
  refine nh_loop (α := nh_S) (fun i τ => nh_E kX7_goRound 138 [some (.ref 12), some (.ref o1), none, none, none, none, some (.int (nI p)), some (.int (nI t)), some (.int (nI k)), some (.int (nI i)), none] [] τ Q) (fun i τ => frC [14, 15] σ τ ∧ WK τ S (W, fun h => if h < i ∧ k.testBit h = true then some (t, p) else E h)) (sH S) ?_ ?_ (sH S) 0 σ (by omega) ⟨frC.rf _ _, by
    have e : (fun h => if h < 0 ∧ k.testBit h = true then some (t, p) else E h) = E := by funext h; rw [if_neg (by omega)]
    rw [e]; exact hK⟩
  · rintro τ ⟨t1, t2⟩
    have a9 : τ.1 o1 0 = nI (sH S) := by rw [(t1.1 o1 (by simp; omega)).1]; exact hH
    refine sg_X7_goRound_138 ho1 ho2 _ _ _ _ (pk_le (sH S) (sH S) (fun _ => hQ τ t1 ?_) (fun c => by omega) a9 rfl)
    obtain ⟨k1, k2, k3⟩ := t2
    refine ⟨k1, fun h hh => ?_, fun h hh => ?_⟩
    · rw [k2 h hh]
      simp only [hh, true_and]
    · have := k3 h hh
      simp only [hh, true_and] at this ⊢
      exact this
  · rintro i τ hi ⟨t1, t2⟩ ih
    have a9 : τ.1 o1 0 = nI (sH S) := by rw [(t1.1 o1 (by simp; omega)).1]; exact hH
    refine sg_X7_goRound_138 ho1 ho2 _ _ _ _ (pk_le (sH S) i (fun c => by omega) (fun _ => ?_) a9 rfl)
    rw [bs_hs hk (by omega), nI_1, pk_cl i rfl (by omega)]
    obtain ⟨k1, k2, k3⟩ := t2
    refine ⟨fun c => ?_, fun c => ⟨pk_in i 9 (by omega), ?_⟩⟩
    · have e : (fun h => if h < i + 1 ∧ k.testBit h = true then some (t, p) else E h) = (fun h => if h < i ∧ k.testBit h = true then some (t, p) else E h) := by
        funext h
        by_cases eh : h = i
        · subst eh; rw [if_neg (fun q => c q.2), if_neg (fun q => c q.2)]
        · by_cases q : h < i ∧ k.testBit h = true
          · rw [if_pos q, if_pos ⟨by omega, q.2⟩]
          · rw [if_neg q, if_neg (fun z => q ⟨by omega, z.2⟩)]
      refine ih τ ⟨t1, ?_⟩
      rw [e]
      exact ⟨k1, k2, k3⟩
    · have hni := hn i hi c
      refine ih _ ⟨(t1.wa _ _ (by decide)).wa _ _ (by decide), fun h hh => ?_, fun h hh => ?_, fun h hh => ?_⟩
      · rw [wa_ne _ _ _ (by omega), wa_ne _ _ _ (by omega)]; exact k1 h hh
      · rw [wa_ne _ _ _ (by omega), bs_get]
        by_cases e : h = i
        · subst e
          rw [if_pos ⟨rfl, rfl⟩]
          dsimp only
          rw [hni, if_pos ⟨by omega, c⟩]
          rfl
        · rw [if_neg (fun z => e z.2), k2 h hh]
          dsimp only
          by_cases q : h < i ∧ k.testBit h = true
          · rw [if_pos q, if_pos ⟨by omega, q.2⟩]
          · rw [if_neg q, if_neg (fun z => q ⟨by omega, z.2⟩)]
      · dsimp only
        rw [bs_get, wa_ne _ _ _ (by omega)]
        by_cases e : h = i
        · subst e
          refine ⟨fun t q => (by rw [hni] at q; cases q), fun _ y hy => ?_⟩
          rw [if_pos ⟨by omega, c⟩] at hy
          cases hy
          rw [if_pos ⟨rfl, rfl⟩]
        · rw [if_neg (fun z => e z.2)]
          have := k3 h hh
          dsimp only at this
          by_cases q : h < i ∧ k.testBit h = true
          · rw [if_pos q] at this
            rw [if_pos ⟨by omega, q.2⟩]
            exact this
          · rw [if_neg q] at this
            rw [if_neg (fun z => q ⟨by omega, z.2⟩)]
            exact this
set_option maxHeartbeats 2000000 in
theorem c_goRound {S : SP} {σ : nh_S} {o1 o2 n : Nat} {pa pb : Nat → Nat} (ho1 : isP o1) (ho2 : isL o2) (hC : CRc σ o1 S) (hW : WFc S) (hP : CRp σ o2 n pa pb) (hpl : Pl (sH S) n pa pb) (hn : n ≤ 20) {f awm : Nat} (hf : f < sH S) (haw : awm < 2 ^ 31) {L : List Nat} {W : Nat → Option Nat} {G : Nat → Bool} {E : Nat → Option (Nat × Nat)} (hI : Inv S n pa pb f awm.testBit W G E) (hL : QL σ S L W) (hK : WK σ S (W, E)) {a t : Nat} (ha : a < sH S) (hG : G a = false) (hWa : W a = some t) (ht : t ≤ 1000000) {Q : Option Value → nh_S → Prop}
    (hQ : ∀ τ M, frC [12, 13, 14, 15, 16] σ τ → QL τ S (L ++ M) (go S f awm.testBit (rl pa pb a n) (W, t, a, 0)).1 → WK τ S ((go S f awm.testBit (rl pa pb a n) (W, t, a, 0)).1, fun h => if h ∈ rl pa pb a n ∧ h ≠ f ∧ awm.testBit h = true then some (rend S f awm.testBit (rl pa pb a n) t a) else E h) → Q none τ) :
    nh_E kX7_goRound 0 [some (.ref 12), some (.ref o1), some (.ref o2), some (.int (nI a)), some (.int (nI f)), some (.int (nI awm)), none, none, none, none, none] [] σ Q := by
  have h9 := hW.1
  have d1 := ho1
  unfold isP at d1
  have d2 := ho2
  unfold isL at d2
  have hfar : ∀ x y, x < sH S → y < sH S → sFar S x y ≤ 500 := fun x y hx hy => (hW.2.2.2.2 x y hx hy).1
  have hwk : ∀ h, h < sH S → sWk S h ≤ 60 ∧ sKy S h ≤ 60 := fun h hh => ⟨(hW.2.2.2.1 h hh).1, (hW.2.2.2.1 h hh).2.1⟩
  have hgl : ∀ m, m ≤ n → ∀ x ∈ rl pa pb a m, x < sH S := fun m hm x hx => by
    obtain ⟨i, i1, -, i3⟩ := rl_mem.mp hx
    rw [← i3]
    exact (hpl.1 i (by omega)).2.1
  have bt : ∀ m, m ≤ n → (go S f awm.testBit (rl pa pb a m) (W, t, a, 0)).2.1 ≤ t + 11200 ∧ (go S f awm.testBit (rl pa pb a m) (W, t, a, 0)).2.2.1 < sH S ∧ (go S f awm.testBit (rl pa pb a m) (W, t, a, 0)).2.2.2 < 2 ^ sH S := by
    intro m hm
    obtain ⟨e1, e2⟩ := go_end (S := S) (f := f) (aw := awm.testBit) (rl pa pb a m) W (fun _ => none) t a 0 0
    have hlen := rl_len (pa := pa) (pb := pb) (a := a) m
    obtain ⟨b1, b2, -, b4⟩ := go_bd (f := f) (aw := awm.testBit) hfar hwk (rl pa pb a m) (fun _ => none) t a 0 2000000 (hgl m hm) ha (by omega) (fun h v hv => by cases hv) (Nat.two_pow_pos _)
    rw [e1, e2]
    refine ⟨by omega, b2, ?_⟩
    apply Nat.lt_pow_two_of_testBit
    intro i hi
    rw [go_K, Nat.zero_testBit, Bool.false_or, decide_eq_false]
    rintro ⟨q, -⟩
    have := hgl m hm i q
    omega
  have hpw : 2 ^ sH S ≤ 2 ^ 9 := pw_le h9
  refine sg_X7_goRound_0 ho1 ho2 _ _ _ ⟨pk_in a 9 (by omega), ?_⟩
  rw [pk_cl a rfl (by omega), hK.1 a ha]
  dsimp only
  rw [hWa]
  refine nh_loop (α := nh_S) (fun m τ => nh_E kX7_goRound 17 [some (.ref 12), some (.ref o1), some (.ref o2), some (.int (nI a)), some (.int (nI f)), some (.int (nI awm)), some (.int (nI (go S f awm.testBit (rl pa pb a m) (W, t, a, 0)).2.2.1)), some (.int (nI (go S f awm.testBit (rl pa pb a m) (W, t, a, 0)).2.1)), some (.int (nI (go S f awm.testBit (rl pa pb a m) (W, t, a, 0)).2.2.2)), some (.int (nI m)), none] [] τ Q) (fun m τ => frC [12, 13, 14, 15, 16] σ τ ∧ ∃ M, QL τ S (L ++ M) (go S f awm.testBit (rl pa pb a m) (W, t, a, 0)).1 ∧ WK τ S ((go S f awm.testBit (rl pa pb a m) (W, t, a, 0)).1, E)) n ?_ ?_ n 0 σ (by omega) ⟨frC.rf _ _, [], by rw [List.append_nil]; exact hL, hK⟩
  · rintro τ ⟨t1, M, t2, t3⟩
    have a0 : τ.1 o2 0 = nI n := by rw [(t1.1 o2 (by simp; omega)).1]; exact hP.1
    have a9 : τ.1 o1 0 = nI (sH S) := by rw [(t1.1 o1 (by simp; omega)).1]; exact hC.1
    refine sg_X7_goRound_17 ho1 ho2 _ _ _ _ _ _ _ (pk_le n n (fun _ => ?_) (fun c => by omega) a0 rfl)
    have hnd := rl_nd (a := a) hpl n (Nat.le_refl n)
    have hI2 := Inv_go hpl hI ha hG hWa
    obtain ⟨b1, b2, b3⟩ := bt n (Nat.le_refl n)
    have hbit : ∀ h, (go S f awm.testBit (rl pa pb a n) (W, t, a, 0)).2.2.2.testBit h = true ↔ (h ∈ rl pa pb a n ∧ h ≠ f ∧ awm.testBit h = true) := fun h => by rw [go_K, Nat.zero_testBit, Bool.false_or, decide_eq_true_iff]
    refine c_taken ho1 ho2 a9 h9 (by omega) t3 (fun h hh hb => ?_) (fun υ u1 u2 => ?_)
    · obtain ⟨-, q2, q3⟩ := (hbit h).mp hb
      cases hw : (go S f awm.testBit (rl pa pb a n) (W, t, a, 0)).1 h with
      | none => rfl
      | some v =>
        have := (hI2.2.1 h hh q2 v hw).1
        rw [q3] at this
        cases this
    · refine hQ υ M (t1.tr (u1.mono (by decide))) ?_ ?_
      · obtain ⟨q1, q2, q3⟩ := t2
        refine ⟨by rw [(u1.1 12 (by decide)).1]; exact q1, fun k b hk => by rw [(u1.1 16 (by decide)).2]; exact q2 k b hk, q3⟩
      · obtain ⟨e1, e2⟩ := go_end (S := S) (f := f) (aw := awm.testBit) (rl pa pb a n) W (fun _ => none) t a 0 0
        have e : (fun h => if (go S f awm.testBit (rl pa pb a n) (W, t, a, 0)).2.2.2.testBit h = true then some ((go S f awm.testBit (rl pa pb a n) (W, t, a, 0)).2.1, (go S f awm.testBit (rl pa pb a n) (W, t, a, 0)).2.2.1) else E h) = (fun h => if h ∈ rl pa pb a n ∧ h ≠ f ∧ awm.testBit h = true then some (rend S f awm.testBit (rl pa pb a n) t a) else E h) := by
          funext h
          unfold rend
          rw [← e1, ← e2]
          by_cases q : h ∈ rl pa pb a n ∧ h ≠ f ∧ awm.testBit h = true
          · rw [if_pos ((hbit h).mpr q), if_pos q]
          · rw [if_neg (fun z => q ((hbit h).mp z)), if_neg q]
        rw [← e]
        exact u2
  · rintro m τ hm ⟨t1, M, t2, t3⟩ ih
    have a0 : τ.1 o2 0 = nI n := by rw [(t1.1 o2 (by simp; omega)).1]; exact hP.1
    obtain ⟨p1, p2⟩ := hP.2 m hm
    have a1 : τ.2.1 (o2 + 1) m = nI (pa m) := by rw [(t1.1 (o2 + 1) (by simp; omega)).2]; exact p1
    have a2 : τ.2.1 (o2 + 2) m = nI (pb m) := by rw [(t1.1 (o2 + 2) (by simp; omega)).2]; exact p2
    obtain ⟨w1, w2, w3⟩ := hpl.1 m hm
    refine sg_X7_goRound_17 ho1 ho2 _ _ _ _ _ _ _ (pk_le n m (fun c => by omega) (fun _ => ⟨pk_in m 20 (by omega), ?_⟩) a0 rfl)
    rw [pk_cl m rfl (by omega), a1, a2, nI_1]
    have hE : nI (pa m) = nI a ↔ pa m = a := nI_eq (by omega) (by omega)
    refine ⟨fun c => ?_, fun c => ?_⟩
    · have er : rl pa pb a (m + 1) = rl pa pb a m := by rw [rl, if_neg (fun q => c (hE.mpr q))]
      rw [er] at ih
      exact ih τ ⟨t1, M, t2, t3⟩
    · have er : rl pa pb a (m + 1) = rl pa pb a m ++ [pb m] := by rw [rl, if_pos (hE.mp c)]
      have btm := bt m (by omega)
      have hnd := rl_nd (a := a) hpl (m + 1) (by omega)
      rw [er] at ih hnd
      rw [go_app] at ih
      -- one who is roused was not awake
      have hnew : pb m ≠ f → (go S f awm.testBit (rl pa pb a m) (W, t, a, 0)).1 (pb m) = none := by
        intro hbf
        have hnot : pb m ∉ rl pa pb a m := by
          rw [List.nodup_append] at hnd
          intro q
          exact hnd.2.2 (pb m) q (pb m) (by simp) rfl
        rw [go_W _ _ _ _ _ _ (rl_nd hpl m (by omega))]
        have htn : tim S f awm.testBit (rl pa pb a m) t a (pb m) = none := by
          cases q : tim S f awm.testBit (rl pa pb a m) t a (pb m) with
          | none => rfl
          | some t1 => exact absurd (tim_mem.mp ⟨t1, q⟩) hnot
        rw [htn]
        dsimp only
        cases hw : W (pb m) with
        | none => rfl
        | some v =>
          exfalso
          obtain ⟨-, a', -, ga', t', wa', t1', ht1', -⟩ := hI.2.1 (pb m) w2 hbf v hw
          have e := rl_one hpl (tim_mem.mp ⟨_, ht1'⟩) (rl_mem.mpr ⟨m, hm, hE.mp c, rfl⟩)
          subst e
          rw [hG] at ga'
          cases ga'
      generalize go S f awm.testBit (rl pa pb a m) (W, t, a, 0) = x at ih t2 t3 btm hnew
      obtain ⟨W1, t0, p, k⟩ := x
      dsimp only at ih t2 t3 btm hnew ⊢
      obtain ⟨g1, g2, -⟩ := hC.2.2.2.2 (pb m) w2
      have f1 : τ.2.1 (o1 + 9 + p) (pb m) = nI (sFar S p (pb m)) := by rw [(t1.1 (o1 + 9 + p) (by simp; omega)).2]; exact hC.2.2.2.1 p (pb m) btm.2.1 w2
      have f2 : τ.2.1 (o1 + 1) (pb m) = nI (sWk S (pb m)) := by rw [(t1.1 (o1 + 1) (by simp; omega)).2]; exact g1
      have f3 : τ.2.1 (o1 + 2) (pb m) = nI (sKy S (pb m)) := by rw [(t1.1 (o1 + 2) (by simp; omega)).2]; exact g2
      rw [pk_cl p rfl (by omega), pk_cl (pb m) rfl (by omega), f1, f2, f3, nI_add, nI_add, nI_add]
      refine ⟨pk_in p 9 (by omega), pk_in (pb m) 9 (by omega), ?_⟩
      have hF : nI (pb m) = nI f ↔ pb m = f := nI_eq (by omega) (by omega)
      have hh : nh_hs (nI awm) (nI (pb m)) ↔ awm.testBit (pb m) = true := bs_hs haw (by omega)
      unfold gst at ih
      dsimp only at ih
      refine ⟨fun c1 => ⟨fun _ => ?_, fun q => absurd c1 q⟩, fun c1 => ⟨fun c2 => ⟨fun q => absurd q c1, fun _ => ?_⟩, fun c2 => ?_⟩⟩
      · rw [if_pos (hF.mp c1)] at ih
        exact ih τ ⟨t1, M, t2, t3⟩
      · have nf : ¬ pb m = f := fun q => c1 (hF.mpr q)
        rw [if_neg nf, if_neg (fun q => c2 (hh.mpr q))] at ih
        refine c_rouse h9 t2 t3 w2 (hnew nf) (fun υ u1 u2 u3 => ⟨rfl, ?_⟩)
        refine ih υ ⟨t1.tr u1, M ++ [pb m], ?_, u3⟩
        rw [← List.append_assoc]
        exact u2
      · have nf : ¬ pb m = f := fun q => c1 (hF.mpr q)
        rw [if_neg nf, if_pos (hh.mp c2)] at ih
        rw [bs_shl (by omega), fa_or]
        exact ih τ ⟨t1, M, t2, t3⟩
