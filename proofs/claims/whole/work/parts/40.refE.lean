/-! THE REFERENCE: burn -/
theorem r_arriveAwake {S : SP} {σ : nh_S} (hR : RR σ S) (hW : WF S) {fire : Nat} (hfi : fire < sH S) {W A : Nat → Option Nat} (h15 : ∀ h, h < 9 → σ.2.1 15 h = ot (W h)) (h16 : ∀ h, h < sH S → σ.2.1 16 h = ot (A h)) (hb : ∀ h v, h < sH S → W h = some v → v ≤ 1000000) {Q : Option Value → nh_S → Prop}
    (hQ : ∀ τ, frA [16] σ τ → (∀ h, h < sH S → τ.2.1 16 h = ot (match W h with | some t => some (t + sFar S h fire) | none => A h)) → Q none τ) : nh_E kX9_arriveAwake 0 [some (.ref 0), some (.int (nI fire)), none] [] σ Q := by
  have h9 := hW.1.1
  refine sg_X9_arriveAwake_0 _ ?_
  refine nh_loop (α := nh_S) (fun i τ => nh_E kX9_arriveAwake 2 [some (.ref 0), some (.int (nI fire)), some (.int (nI i))] [] τ Q) (fun n τ => frA [16] σ τ ∧ (∀ h, h < n → τ.2.1 16 h = ot (match W h with | some t => some (t + sFar S h fire) | none => A h)) ∧ ∀ h, n ≤ h → τ.2.1 16 h = σ.2.1 16 h) (sH S) ?_ ?_ (sH S) 0 σ (by omega) ⟨frA.rf _ _, fun h hh => by omega, fun _ _ => rfl⟩
  · rintro τ ⟨t1, t2, t3⟩
    have a9 : τ.2.1 9 0 = nI (sH S) := by rw [t1.2 9 (by decide)]; exact hR.1.1
    exact sg_X9_arriveAwake_2 _ _ (pk_le (sH S) (sH S) (fun _ => hQ τ t1 t2) (fun c => by omega) a9 rfl)
  · rintro i τ hi ⟨t1, t2, t3⟩ ih
    have a9 : τ.2.1 9 0 = nI (sH S) := by rw [t1.2 9 (by decide)]; exact hR.1.1
    have a15 : τ.2.1 15 i = ot (W i) := by rw [t1.2 15 (by decide)]; exact h15 i (by omega)
    have a14 : τ.2.1 14 = σ.2.1 14 := t1.2 14 (by decide)
    have e9 : (9 : Int32) * nI i + nI fire = nI (9 * i + fire) := by rw [show (9 : Int32) = nI 9 from rfl, pk_mul, nI_add]
    refine sg_X9_arriveAwake_2 _ _ (pk_le (sH S) i (fun c => by omega) (fun c => ?_) a9 rfl)
    rw [pk_cl i rfl (by omega), a15, e9, a14, pk_cl (9 * i + fire) rfl (by omega), hR.1.2.2.2.1 i fire hi hfi, nI_1]
    refine ⟨pk_in i 9 (by omega), fun _ => pk_in (9 * i + fire) 81 (by omega), ?_⟩
    refine ih _ ⟨t1.wa _ _ (by decide), fun h hh => ?_, fun h hh => ?_⟩
    · rw [bs_get]
      by_cases e : h = i
      · subst e
        rw [if_pos ⟨rfl, rfl⟩]
        cases hw : W h with
        | none => rw [if_pos ot_neg, t3 h (Nat.le_refl h)]; exact h16 h hi
        | some t => rw [if_neg (ot_nn (by have := hb h t hi hw; omega)), ot_some, nI_add]; rfl
      · rw [if_neg (fun z => e z.2)]
        exact t2 h (by omega)
    · rw [bs_get, if_neg (by omega)]
      exact t3 h (by omega)
/-- the clauses of one waker are gathered -/
theorem r_gather {S : SP} {σ : nh_S} (hR : RR σ S) (hW : WF S) {a : Nat} (ha : a < sH S) {x1 x2 x3 x4 x5 : Int32} (h26 : σ.1 0 26 = nI 0) {Q : Option Value → nh_S → Prop}
    (hQ : ∀ τ : nh_S, (∀ k, k ≠ 17 → τ.2.1 k = σ.2.1 k) → (∀ j, j ≠ 26 → τ.1 0 j = σ.1 0 j) → τ.1 0 26 = nI (rl (sPa S) (sPb S) a (sPn S)).length → (∀ k b, (rl (sPa S) (sPb S) a (sPn S))[k]? = some b → τ.2.1 17 k = nI b) →
      nh_E kX9_goRound 0 [some (.ref 0), some (.int (nI a)), some (.int (τ.2.1 15 a)), some (.int x1), some (.int x2), some (.int x3), none, none, none, none] [] τ (nh_qv fun τ3 => nh_E kX9_burn 22 [some (.ref 0), some (.int x1), some (.int x2), some (.int x3), some (.int x4), some (.int x5), some (.int (nI (a + 1))), none] [] τ3 Q)) :
    nh_E kX9_burn 73 [some (.ref 0), some (.int x1), some (.int x2), some (.int x3), some (.int x4), some (.int x5), some (.int (nI a)), some (.int (nI 0))] [] σ Q := by
  have h9 := hW.1.1
  have h20 := hW.2.2.1.1
  refine nh_loop (α := nh_S) (fun i τ => nh_E kX9_burn 73 [some (.ref 0), some (.int x1), some (.int x2), some (.int x3), some (.int x4), some (.int x5), some (.int (nI a)), some (.int (nI i))] [] τ Q) (fun n τ => (∀ k, k ≠ 17 → τ.2.1 k = σ.2.1 k) ∧ (∀ j, j ≠ 26 → τ.1 0 j = σ.1 0 j) ∧ τ.1 0 26 = nI (rl (sPa S) (sPb S) a n).length ∧ (∀ k b, (rl (sPa S) (sPb S) a n)[k]? = some b → τ.2.1 17 k = nI b)) (sPn S) ?_ ?_ (sPn S) 0 σ (by omega) ⟨fun _ _ => rfl, fun _ _ => rfl, h26, fun k b h => by simp [rl] at h⟩
  · rintro τ ⟨t1, t2, t3, t4⟩
    have a11 : τ.1 0 11 = nI (sPn S) := by rw [t2 11 (by decide)]; exact hR.2.2.1.1
    refine sg_X9_burn_73 _ _ _ _ _ _ _ (pk_le (sPn S) (sPn S) (fun _ => ⟨pk_in a 9 (by omega), ?_⟩) (fun c => by omega) a11 rfl)
    rw [pk_cl a rfl (by omega), nI_1]
    exact hQ τ t1 t2 t3 t4
  · rintro i τ hi ⟨t1, t2, t3, t4⟩ ih
    have a11 : τ.1 0 11 = nI (sPn S) := by rw [t2 11 (by decide)]; exact hR.2.2.1.1
    obtain ⟨p1, p2⟩ := hR.2.2.1.2 i hi
    have a10 : τ.2.1 10 i = nI (sPa S i) := by rw [t1 10 (by decide)]; exact p1
    have a11b : τ.2.1 11 i = nI (sPb S i) := by rw [t1 11 (by decide)]; exact p2
    obtain ⟨w1, w2, w3⟩ := hW.2.2.1.2.1 i hi
    have hll := rl_len (pa := sPa S) (pb := sPb S) (a := a) i
    refine sg_X9_burn_73 _ _ _ _ _ _ _ (pk_le (sPn S) i (fun c => by omega) (fun c => ?_) a11 rfl)
    rw [pk_cl i rfl (by omega), a10, a11b, t3, nI_1, pk_cl (rl (sPa S) (sPb S) a i).length rfl (by omega), nI_1]
    refine ⟨pk_in i 40 (by omega), ?_⟩
    have hE : nI (sPa S i) = nI a ↔ sPa S i = a := nI_eq (by omega) (by omega)
    refine ⟨fun c1 => ?_, fun c1 => ⟨pk_in (rl (sPa S) (sPb S) a i).length 20 (by omega), ?_⟩⟩
    · refine ih τ ⟨t1, t2, ?_, ?_⟩
      · rw [rl, if_neg (fun q => c1 (hE.mpr q))]; exact t3
      · rw [rl, if_neg (fun q => c1 (hE.mpr q))]; exact t4
    · have er : rl (sPa S) (sPb S) a (i + 1) = rl (sPa S) (sPb S) a i ++ [sPb S i] := by rw [rl, if_pos (hE.mp c1)]
      refine ih _ ⟨fun k hk => ?_, fun j hj => ?_, ?_, ?_⟩
      · show (nh_wa τ 17 _ _).2.1 k = _
        rw [wa_ne _ _ _ hk]; exact t1 k hk
      · rw [si_ne _ 0 26 _ hj]; exact t2 j hj
      · rw [bs_geti, if_pos ⟨rfl, rfl⟩, er, List.length_append]; rfl
      · rw [er]
        intro k b hkb
        show (nh_wa τ 17 _ _).2.1 17 k = _
        rw [bs_get]
        rcases Nat.lt_trichotomy k (rl (sPa S) (sPb S) a i).length with q | q | q
        · rw [if_neg (by omega)]
          rw [List.getElem?_append_left q] at hkb
          exact t4 k b hkb
        · subst q
          rw [List.getElem?_append_right (Nat.le_refl _)] at hkb
          simp at hkb
          rw [if_pos ⟨rfl, rfl⟩, hkb]
        · rw [List.getElem?_eq_none (by rw [List.length_append, List.length_singleton]; omega)] at hkb
          cases hkb
theorem WF_Pl {S : SP} (hW : WF S) : Pl (sH S) (sPn S) (sPa S) (sPb S) := ⟨hW.2.2.1.2.1, hW.2.2.1.2.2⟩
theorem WF_far1 {S : SP} (hW : WF S) : ∀ x y, x < sH S → y < sH S → x ≠ y → 1 ≤ sFar S x y := fun x y hx hy => (hW.1.2.2.2.2 x y hx hy).2.2
/-- the waking by THE PLAN -/
noncomputable abbrev fwS (S : SP) (f awm : Nat) : (Nat → Option Nat) × (Nat → Option (Nat × Nat)) := fw S (sPn S) (sPa S) (sPb S) f awm.testBit
def bdW (S : SP) (x : (Nat → Option Nat) × (Nat → Option (Nat × Nat))) : Prop := (∀ h v, h < sH S → x.1 h = some v → v ≤ 120000) ∧ ∀ h v, h < sH S → x.2 h = some v → v.1 ≤ 140000 ∧ v.2 < sH S
theorem ct_not (g H : Nat) : fb_ct (fun k => g.testBit k) H + fb_ct (fun k => !g.testBit k) H = H := fb_ct_not (fun k => g.testBit k) H
theorem ct_or {g a H : Nat} (ha : a < H) (hg : g.testBit a = false) : fb_ct (fun k => (g ||| 2 ^ a).testBit k) H = fb_ct (fun k => g.testBit k) H + 1 := by
  have h := fb_ct_upd (fun k => g.testBit k) true (i := a) ha
  rw [if_neg (by simp [hg]), if_pos rfl] at h
  rw [← Nat.add_zero (fb_ct (fun k => g.testBit k) H), Nat.add_assoc, Nat.zero_add] at *
  rw [← h]
  apply fb_ct_cong
  intro k _
  rw [fb_bit_set]
  by_cases e : k = a
  · simp [e]
  · simp [e]
set_option maxHeartbeats 1000000 in
theorem r_burn_loop {S : SP} {σ : nh_S} (hR : RR σ S) (hW : WF S) {fire f awm : Nat} (hfi : fire < sH S) (hf : f < sH S) (haw : awm < 2 ^ 31) {Q : Option Value → nh_S → Prop}
    (hQ : ∀ τ, pr σ τ → (∀ h, h < sH S → τ.2.1 15 h = ot ((fwS S f awm).1 h)) → (∀ h, h < sH S → τ.2.1 16 h = ot (arr S (fwS S f awm) fire h)) → bdW S (fwS S f awm) → Q none τ) :
    ∀ (N i more g : Nat) (τ : nh_S) (W : Nat → Option Nat) (E : Nat → Option (Nat × Nat)), i ≤ sH S → more ≤ 1 → g < 2 ^ sH S → fb_ct (fun k => !g.testBit k) (sH S) * 40 + more * 20 + (sH S - i) < N →
      pr σ τ → (∀ h, h < 9 → τ.2.1 15 h = ot (W h)) → (∀ h, h < sH S → τ.2.1 16 h = ot ((E h).map (fun x => x.1 + sFar S x.2 fire))) → Inv S (sPn S) (sPa S) (sPb S) f awm.testBit W (fun k => g.testBit k) E → (∀ h v, h < sH S → W h = some v → v ≤ fb_ct (fun k => g.testBit k) (sH S) * 12460) → (more = 0 → ∀ j, j < i → (W j).isSome = true → g.testBit j = true) →
      nh_E kX9_burn 22 [some (.ref 0), some (.int (nI fire)), some (.int (nI f)), some (.int (nI awm)), some (.int (nI g)), some (.int (nI more)), some (.int (nI i)), none] [] τ Q := by
  have h9 := hW.1.1
  have hpl := WF_Pl hW
  have hfar : ∀ x y, x < sH S → y < sH S → sFar S x y ≤ 500 := fun x y hx hy => (hW.1.2.2.2.2 x y hx hy).1
  have hwk : ∀ h, h < sH S → sWk S h ≤ 60 ∧ sKy S h ≤ 60 := fun h hh => ⟨(hW.1.2.2.2.1 h hh).1, (hW.1.2.2.2.1 h hh).2.1⟩
  have hgl : ∀ a, ∀ x ∈ rl (sPa S) (sPb S) a (sPn S), x < sH S := fun a x hx => by
    obtain ⟨i, i1, -, i3⟩ := rl_mem.mp hx
    rw [← i3]
    exact (hpl.1 i i1).2.1
  have hll : ∀ a, (rl (sPa S) (sPb S) a (sPn S)).length ≤ 20 := fun a => Nat.le_trans (rl_len _) hW.2.2.1.1
  have hpw : 2 ^ sH S ≤ 2 ^ 9 := pw_le h9
  intro N
  induction N with
  | zero => intro i more g τ W E _ _ _ h; omega
  | succ N ih =>
    intro i more g τ W E hi hmore hg hN hpr h15 h16 hI hbd hpass
    have hRt := hR.pr hW.1.2.1 hpr
    have hct : fb_ct (fun k => g.testBit k) (sH S) ≤ sH S := fb_ct_le _ _
    refine sg_X9_burn_22 _ _ _ _ _ _ (pk_le (sH S) i (fun c => ?_) (fun c => ?_) hRt.1.1 rfl)
    · have ei : i = sH S := by omega
      subst ei
      refine sg_X9_burn_11 _ _ _ _ _ (pk_eq more 0 (fun c2 => ?_) (fun c2 => ?_))
      · have hfin : Fin S (sPn S) (sPa S) (sPb S) f awm.testBit (W, E) := Fin_of hI (fun h hh hs => hpass c2 h hh hs)
        have heq := fw_eq (WF_far1 hW) hpl hfin
        refine r_arriveAwake hRt hW hfi h15 h16 (fun h v hh hv => by have := hbd h v hh hv; omega) (fun υ u1 u2 => ⟨rfl, ?_⟩)
        refine hQ υ (hpr.tr (u1.pr (by decide))) (fun h hh => ?_) (fun h hh => ?_) ⟨fun h v hh hv => ?_, fun h v hh hv => ?_⟩
        · rw [u1.2 15 (by decide), h15 h (by omega), show W h = (fwS S f awm).1 h from (heq h hh).1]
        · rw [u2 h hh]
          congr 1
          unfold arr
          rw [← (heq h hh).1, ← (heq h hh).2]
          dsimp only
          cases W h with
          | some t => rfl
          | none => cases E h <;> rfl
        · rw [← (heq h hh).1] at hv
          have := hbd h v hh hv
          omega
        · rw [← (heq h hh).2] at hv
          obtain ⟨-, -, a, ha, -, t, wt, -, rfl⟩ := (hI.2.2.2 h hh v).mp hv
          have ht := hbd a t ha wt
          obtain ⟨b1, b2, -, -⟩ := go_bd (f := f) (aw := awm.testBit) hfar hwk (rl (sPa S) (sPb S) a (sPn S)) (fun _ => none) t a 0 1000000 (hgl a) ha (by have := hll a; omega) (fun h v hv => by cases hv) (Nat.two_pow_pos _)
          have := hll a
          exact ⟨by show (go S f awm.testBit _ _).2.1 ≤ _; omega, b2⟩
      · have e1 : more = 1 := by omega
        subst e1
        exact ih 0 0 g τ W E (by omega) (by omega) hg (by omega) hpr h15 h16 hI hbd (fun _ j hj => by omega)
    · rw [pk_cl i rfl (by omega), h15 i (by omega)]
      refine ⟨pk_in i 9 (by omega), ?_⟩
      cases hwi : W i with
      | none =>
        refine ⟨fun _ => ?_, fun q => absurd ot_neg q⟩
        rw [nI_1]
        refine ih (i + 1) more g τ W E (by omega) hmore hg (by omega) hpr h15 h16 hI hbd (fun q j hj hs => ?_)
        rcases (show j < i ∨ j = i by omega) with z | rfl
        · exact hpass q j z hs
        · rw [hwi] at hs; cases hs
      | some t =>
        have htb := hbd i t c hwi
        refine ⟨fun q => absurd q (ot_nn (by omega)), fun _ => ?_⟩
        have hh : nh_hs (nI g) (nI i) ↔ g.testBit i = true := bs_hs (by omega) (by omega)
        refine ⟨fun c2 => ?_, fun c2 => ?_⟩
        · rw [nI_1]
          refine ih (i + 1) more g τ W E (by omega) hmore hg (by omega) hpr h15 h16 hI hbd (fun q j hj hs => ?_)
          rcases (show j < i ∨ j = i by omega) with z | rfl
          · exact hpass q j z hs
          · exact hh.mp c2
        · have hgi : g.testBit i = false := by
            cases q : g.testBit i with
            | false => rfl
            | true => exact absurd (hh.mpr q) c2
          rw [bs_shl (by omega), fa_or]
          have hp26 : pr τ (nh_si τ 0 26 0) := pr.si τ 0 (by decide)
          refine r_gather (hRt.pr hW.1.2.1 hp26) hW c (by rw [bs_geti, if_pos ⟨rfl, rfl⟩]; rfl) (fun υ u1 u2 u3 u4 => ?_)
          have hpu : pr (nh_si τ 0 26 0) υ := ⟨⟨u1 1 (by decide), u1 2 (by decide), u1 3 (by decide), u1 6 (by decide), u1 7 (by decide), u1 8 (by decide), u1 9 (by decide), u1 10 (by decide), u1 11 (by decide), u1 12 (by decide), u1 13 (by decide), u1 14 (by decide), u1 26 (by decide)⟩, u2 11 (by decide), u2 14 (by decide), u2 16 (by decide), u2 21 (by decide), u2 37 (by decide)⟩
          have hpu2 := (hpr.tr hp26).tr hpu
          have hRu := hR.pr hW.1.2.1 hpu2
          have v15 : ∀ h, h < 9 → υ.2.1 15 h = ot (W h) := fun h hh2 => by rw [u1 15 (by decide)]; exact h15 h hh2
          have v16 : ∀ h, h < sH S → υ.2.1 16 h = ot ((E h).map (fun x => x.1 + sFar S x.2 fire)) := fun h hh2 => by rw [u1 16 (by decide)]; exact h16 h hh2
          rw [v15 i (by omega), hwi]
          refine r_goRound (W := W) (t0 := t) hRu hW c hfi hf haw (hgl i) (hll i) u3 u4 (by omega) v15 (fun ρ r1 r2 r3 => ⟨rfl, ?_⟩)
          have hor := ct_or c hgi
          have hn1 := ct_not g (sH S)
          have hn2 := ct_not (g ||| 2 ^ i) (sH S)
          have hI2 := Inv_go hpl hI c hgi hwi
          have hbw : ∀ h v, h < sH S → (go S f awm.testBit (rl (sPa S) (sPb S) i (sPn S)) (W, t, i, 0)).1 h = some v → v ≤ fb_ct (fun k => g.testBit k) (sH S) * 12460 + 12460 := by
            intro h v hh2 hv
            rw [go_W _ _ _ _ _ _ (rl_nd hpl _ (Nat.le_refl _))] at hv
            cases q : tim S f awm.testBit (rl (sPa S) (sPb S) i (sPn S)) t i h with
            | none => rw [q] at hv; exact Nat.le_trans (hbd h v hh2 hv) (Nat.le_add_right _ _)
            | some t1 =>
              rw [q] at hv
              dsimp only at hv
              by_cases c3 : h ≠ f ∧ awm.testBit h = false
              · rw [if_pos c3] at hv
                cases hv
                have hb2 := (go_bd (f := f) (aw := awm.testBit) hfar hwk (rl (sPa S) (sPb S) i (sPn S)) (fun _ => none) t i 0 (t + 12460) (hgl i) c (by have := hll i; omega) (fun h v hv => by cases hv) (Nat.two_pow_pos _)).2.2.1 h (t1 + sWk S h) (by
                  rw [go_W _ _ _ _ _ _ (rl_nd hpl _ (Nat.le_refl _)), q]
                  dsimp only
                  rw [if_pos c3])
                omega
              · rw [if_neg c3] at hv
                exact Nat.le_trans (hbd h v hh2 hv) (Nat.le_add_right _ _)
          have hgg : (fun k => g.testBit k || decide (k = i)) = (fun k => (g ||| 2 ^ i).testBit k) := by
            funext k
            rw [fb_bit_set]
          rw [hgg] at hI2
          refine ih (i + 1) 1 (g ||| 2 ^ i) ρ _ _ (by omega) (by omega) (Nat.or_lt_two_pow hg (Nat.pow_lt_pow_right (by omega) c)) (by omega) (hpu2.tr (r1.pr (by decide))) r2 (fun h hh2 => ?_) hI2 (fun h v hh2 hv => by have := hbw h v hh2 hv; rw [hor]; omega) (fun q => by omega)
          rw [r3 h hh2]
          by_cases c3 : h ∈ rl (sPa S) (sPb S) i (sPn S) ∧ h ≠ f ∧ awm.testBit h = true
          · rw [if_pos c3, if_pos c3]; rfl
          · rw [if_neg c3, if_neg c3]
            exact v16 h hh2
theorem r_burn {S : SP} {σ : nh_S} (hR : RR σ S) (hW : WF S) {fire f awm : Nat} (hfi : fire < sH S) (hf : f < sH S) (haw : awm < 2 ^ 31) {Q : Option Value → nh_S → Prop}
    (hQ : ∀ τ, pr σ τ → (∀ h, h < sH S → τ.2.1 15 h = ot ((fwS S f awm).1 h)) → (∀ h, h < sH S → τ.2.1 16 h = ot (arr S (fwS S f awm) fire h)) → bdW S (fwS S f awm) → Q none τ) :
    nh_E kX9_burn 0 [some (.ref 0), some (.int (nI fire)), some (.int (nI f)), some (.int (nI awm)), none, none, none, none] [] σ Q := by
  have h9 := hW.1.1
  refine sg_X9_burn_0 _ _ _ ?_
  refine r_begin (by omega) (fun τ t1 t2 t3 => ⟨rfl, ?_⟩)
  have hpr : pr σ τ := t1.pr (by decide)
  refine sg_X9_burn_11 _ _ _ _ _ ⟨fun q => absurd q (by decide), fun _ => ?_⟩
  exact r_burn_loop hR hW hfi hf haw hQ _ 0 0 0 τ (fun h => if h = f then some 0 else none) (fun _ => none) (Nat.zero_le _) (Nat.zero_le _) (Nat.two_pow_pos _) (Nat.lt_succ_self _) hpr t2 (fun h hh => t3 h (by omega)) (by
    have h := Inv_0 S (sPn S) (sPa S) (sPb S) f awm.testBit
    have e : (fun k => (0 : Nat).testBit k) = (fun _ : Nat => false) := by funext k; exact Nat.zero_testBit k
    rw [e]
    exact h) (fun h v _ hv => by
      by_cases e : h = f
      · rw [if_pos e] at hv; cases hv; omega
      · rw [if_neg e] at hv; cases hv) (fun _ j hj => by omega)
