/-! what is read keeps its bounds; FAR -/
theorem tkL_ok {T : Nat → Nat} {n : Nat} : ∀ {L : List Nat} {a e : Nat} {vs : List Nat}, tkL T n L a = .ok (vs, e) → ∀ i, i < L.length → vs.getD i 0 < L.getD i 0
  | [], a, e, vs, h, i, hi => absurd hi (by simp)
  | hi :: L, a, e, vs, h, i, hil => by
    rw [tkL] at h
    cases h1 : tkN T n 0 hi a with
    | error z => rw [h1, rb_bad] at h; cases h
    | ok y =>
      obtain ⟨v, e1⟩ := y
      rw [h1, rb_ok] at h
      cases h2 : tkL T n L e1 with
      | error z => rw [h2, rb_bad] at h; cases h
      | ok y =>
        obtain ⟨vs2, e2⟩ := y
        rw [h2, rb_ok] at h
        cases h
        cases i with
        | zero => exact (tkN_ok h1).2.1
        | succ i => exact tkL_ok h2 i (by simpa using hil)
theorem tkQ_ok {T : Nat → Nat} {n p : Nat} : ∀ {f B a e B2 : Nat}, B < 2 ^ p → tkQ T n p f B a = .ok (B2, e) → B2 < 2 ^ p
  | 0, B, a, e, B2, hB, h => by cases h; exact hB
  | f + 1, B, a, e, B2, hB, h => by
    rw [tkQ] at h
    cases h1 : tkN T n 0 p a with
    | error z => rw [h1, rb_bad] at h; cases h
    | ok y =>
      obtain ⟨q, e1⟩ := y
      rw [h1, rb_ok] at h
      have hB2 : B ||| 2 ^ q.1 < 2 ^ p := Nat.or_lt_two_pow hB (Nat.pow_lt_pow_right (by omega) (tkN_ok h1).2.1)
      split at h
      · cases h
      · split at h
        · exact tkQ_ok hB2 h
        · cases h; exact hB2
theorem rb_inv {α β : Type} {x : Rs α} {f : α → Nat → Rs β} {y : β × Nat} (h : rb x f = .ok y) : ∃ v e, x = .ok (v, e) ∧ f v e = .ok y := by
  cases x with
  | error z => cases h
  | ok w => exact ⟨w.1, w.2, rfl, h⟩
theorem tkC_WQ {T : Nat → Nat} {n : Nat} {P P2 : SP} {a e : Nat} (hW : WQ P) (h : tkC T n P a = .ok (P2, e)) : WQ P2 := by
  obtain ⟨w1, w2, w3, w4, w5⟩ := hW
  unfold tkC at h
  split at h
  · unfold tkHouse at h
    split at h
    · cases h
    · rename_i h9
      obtain ⟨vs, e1, g1, g2⟩ := rb_inv h
      obtain ⟨_, e2, _, g3⟩ := rb_inv g2
      cases g3
      have hv := tkL_ok g1
      have eH : sH (nHouse P vs) = sH P + 1 := by simp [sH, nHouse]
      have eP : sP (nHouse P vs) = sP P := by simp [sP, nHouse]
      refine ⟨by omega, by omega, fun h hh => ?_, fun p hp => ?_, fun a b => ?_⟩
      · rw [eH] at hh
        rcases (show h < sH P ∨ h = sH P by omega) with q | rfl
        · have hne : ¬ h = P 0 0 0 := by have : h ≠ sH P := by omega
                                         exact this
          obtain ⟨a1, a2, a3⟩ := w3 h q
          refine ⟨by simpa [sWk, nHouse, hne] using a1, by simpa [sKy, nHouse, hne] using a2, fun q4 hq4 => by simpa [sOd, nHouse, hne] using a3 q4 hq4⟩
        · have b0 := hv 0 (by decide)
          have b1 := hv 1 (by decide)
          refine ⟨?_, ?_, fun q hq => ?_⟩
          · rw [show sWk (nHouse P vs) (sH P) = vs.getD 0 0 by simp [sWk, sH, nHouse]]
            rw [show [61, 61, 101, 101, 101, 101].getD 0 0 = 61 from rfl] at b0
            omega
          · rw [show sKy (nHouse P vs) (sH P) = vs.getD 1 0 by simp [sKy, sH, nHouse]]
            rw [show [61, 61, 101, 101, 101, 101].getD 1 0 = 61 from rfl] at b1
            omega
          · rw [show sOd (nHouse P vs) q (sH P) = vs.getD (2 + q) 0 by simp [sOd, sH, nHouse, hq]]
            have b2 := hv (2 + q) (by simp; omega)
            have : [61, 61, 101, 101, 101, 101].getD (2 + q) 0 = 101 := by
              rcases (show q = 0 ∨ q = 1 ∨ q = 2 ∨ q = 3 by omega) with rfl | rfl | rfl | rfl <;> rfl
            omega
      · rw [eP] at hp
        rw [eH]
        obtain ⟨a1, a2, a3, a4⟩ := w4 p hp
        refine ⟨?_, by simpa [sMi, nHouse] using a2, by simpa [sGa, nHouse] using a3, by simpa [sBe, nHouse] using a4⟩
        rw [show sKp (nHouse P vs) p = sKp P p by simp [sKp, nHouse]]
        omega
      · rw [eH, show sWy (nHouse P vs) a b = sWy P a b by simp [sWy, nHouse]]
        obtain ⟨a1, a2⟩ := w5 a b
        exact ⟨a1, fun q => by obtain ⟨b1, b2, b3⟩ := a2 q; exact ⟨by omega, by omega, b3⟩⟩
  · split at h
    · unfold tkWay at h
      obtain ⟨x, e1, g1, g2⟩ := rb_inv h
      obtain ⟨y, e2, g3, g4⟩ := rb_inv g2
      split at g4
      · cases g4
      · rename_i hne
        obtain ⟨m, e3, g5, g6⟩ := rb_inv g4
        obtain ⟨_, e4, _, g7⟩ := rb_inv g6
        cases g7
        have g := fun t ht => nWay_ne P x.1 y.1 m.1 (t := t) ht
        have hx := tkN_ok g1
        have hy := tkN_ok g3
        have hm := tkN_ok g5
        unfold WQ
        simp only [sH, sP, sWk, sKy, sOd, sKp, sMi, sGa, sBe] at w1 w2 w3 w4 w5 hx hy ⊢
        rw [g 0 (by omega), g 1 (by omega), g 2 (by omega), g 3 (by omega), g 4 (by omega), g 6 (by omega), g 7 (by omega), g 8 (by omega), g 9 (by omega)]
        refine ⟨w1, w2, w3, w4, fun a b => ?_⟩
        rw [nWay_at]
        split
        · rename_i c
          refine ⟨by omega, fun _ => ?_⟩
          rcases c with ⟨rfl, rfl⟩ | ⟨rfl, rfl⟩
          · exact ⟨hy.2.1, hx.2.1, fun q => hne (Or.inl q.symm)⟩
          · exact ⟨hx.2.1, hy.2.1, fun q => hne (Or.inl q)⟩
        · exact w5 a b
    · split at h
      · unfold tkPart at h
        split at h
        · cases h
        · rename_i h12
          obtain ⟨hh, e1, g1, g2⟩ := rb_inv h
          obtain ⟨m, e2, g3, g4⟩ := rb_inv g2
          obtain ⟨g, e3, g5, g6⟩ := rb_inv g4
          obtain ⟨B, e4, g7, g8⟩ := rb_inv g6
          obtain ⟨_, e5, _, g9⟩ := rb_inv g8
          cases g9
          have hB : B < 2 ^ sP P := by
            unfold tkOn at g7
            split at g7
            · exact tkQ_ok (Nat.two_pow_pos _) g7
            · cases g7; exact Nat.two_pow_pos _
          have n1 := tkN_ok g1
          have n2 := tkN_ok g3
          have n3 := tkN_ok g5
          have w : ∀ t, t ∉ [1, 2, 3, 4, 9] → nPart P hh.1 m.1 g.1 B t = P t := fun t ht => by
            simp at ht
            unfold nPart
            rw [sUp_ne _ (by omega), sUp_ne _ (by omega), sUp_ne _ (by omega), sUp_ne _ (by omega), sUp_ne _ (by omega)]
          have eP : nPart P hh.1 m.1 g.1 B 1 0 0 = P 1 0 0 + 1 := by unfold nPart; rw [sUp_at, if_pos ⟨rfl, rfl⟩]
          have f9 : ∀ p, nPart P hh.1 m.1 g.1 B 9 p 0 = if p = sP P then hh.1 else P 9 p 0 := fun p => by unfold nPart; rw [sUp_ne _ (by omega), sUp_ne _ (by omega), sUp_ne _ (by omega), sUp_ne _ (by omega), sUp_at]; simp
          have f2 : ∀ p, nPart P hh.1 m.1 g.1 B 2 p 0 = if p = sP P then m.1 else P 2 p 0 := fun p => by unfold nPart; rw [sUp_ne _ (by omega), sUp_ne _ (by omega), sUp_ne _ (by omega), sUp_at, sUp_ne _ (by omega)]; simp
          have f3 : ∀ p, nPart P hh.1 m.1 g.1 B 3 p 0 = if p = sP P then g.1 else P 3 p 0 := fun p => by unfold nPart; rw [sUp_ne _ (by omega), sUp_ne _ (by omega), sUp_at, sUp_ne _ (by omega), sUp_ne _ (by omega)]; simp
          have f4 : ∀ p, nPart P hh.1 m.1 g.1 B 4 p 0 = if p = sP P then B else P 4 p 0 := fun p => by unfold nPart; rw [sUp_ne _ (by omega), sUp_at, sUp_ne _ (by omega), sUp_ne _ (by omega), sUp_ne _ (by omega)]; simp
          unfold WQ
          simp only [sH, sP, sWk, sKy, sOd, sKp, sMi, sGa, sBe, sWy] at w1 w2 w3 w4 w5 f9 f2 f3 f4 n1 hB h12 ⊢
          rw [w 0 (by decide), w 6 (by decide), w 7 (by decide), w 8 (by decide), w 27 (by decide), eP]
          refine ⟨w1, by omega, w3, fun p hp => ?_, w5⟩
          rw [f9, f2, f3, f4]
          rcases (show p = P 1 0 0 ∨ p < P 1 0 0 by omega) with q | q
          · rw [if_pos q, if_pos q, if_pos q, if_pos q, q]
            exact ⟨n1.2.1, by omega, by omega, hB⟩
          · rw [if_neg (by omega), if_neg (by omega), if_neg (by omega), if_neg (by omega)]
            exact w4 p q
      · cases h
theorem tkAll_WQ {T : Nat → Nat} {n : Nat} : ∀ {f : Nat} {P P2 : SP} {a e : Nat}, WQ P → tkAll T n f P a = .ok (P2, e) → WQ P2
  | 0, P, P2, a, e, hW, h => by cases h; exact hW
  | f + 1, P, P2, a, e, hW, h => by
    rw [tkAll] at h
    split at h
    · obtain ⟨P3, e1, g1, g2⟩ := rb_inv h
      exact tkAll_WQ (tkC_WQ hW g1) g2
    · cases h; exact hW
/-- over HOUSES below m -/
def fl (P : SP) : Nat → Nat → Nat → Nat
  | 0, a, b => if a = b then 0 else if sWy P a b = 0 then 500 else sWy P a b
  | m + 1, a, b => if fl P m a b ≤ fl P m a m + fl P m m b then fl P m a b else fl P m a m + fl P m m b
theorem fl_diag (P : SP) : ∀ m a, fl P m a a = 0
  | 0, a => by rw [fl, if_pos rfl]
  | m + 1, a => by rw [fl, fl_diag P m a, if_pos (Nat.zero_le _)]
theorem fl_le {P : SP} (hW : WQ P) : ∀ m a b, fl P m a b ≤ 500
  | 0, a, b => by
    have := (hW.2.2.2.2 a b).1
    rw [fl]
    split
    · omega
    · split <;> omega
  | m + 1, a, b => by
    have := fl_le hW m a b
    rw [fl]
    split <;> omega
theorem fl_pos {P : SP} : ∀ m a b, a ≠ b → 1 ≤ fl P m a b
  | 0, a, b, h => by
    rw [fl, if_neg h]
    split <;> omega
  | m + 1, a, b, h => by
    have h1 := fl_pos (P := P) m a b h
    rw [fl]
    split
    · exact h1
    · rename_i q
      by_cases e : a = m
      · subst e
        rw [fl_diag] at q
        omega
      · have := fl_pos (P := P) m a m e
        omega
theorem fl_out {P : SP} (hW : WQ P) : ∀ m a b, a ≠ b → (sH P ≤ a ∨ sH P ≤ b) → fl P m a b = 500
  | 0, a, b, h, ho => by
    have : sWy P a b = 0 := by
      apply Classical.byContradiction
      intro q
      have := (hW.2.2.2.2 a b).2 q
      omega
    rw [fl, if_neg h, if_pos this]
  | m + 1, a, b, h, ho => by
    have h1 := fl_out hW m a b h ho
    rw [fl, h1, if_pos]
    rcases ho with q | q
    · by_cases e : a = m
      · subst e
        rw [h1]; omega
      · rw [fl_out hW m a m e (Or.inl q)]; omega
    · by_cases e : m = b
      · subst e
        rw [h1]; omega
      · rw [fl_out hW m m b e (Or.inr q)]; omega
theorem fl_more {P : SP} (hW : WQ P) {a b : Nat} (ha : a < sH P) (hb : b < sH P) : ∀ k, fl P (sH P + k) a b = fl P (sH P) a b
  | 0 => rfl
  | k + 1 => by
    rw [show sH P + (k + 1) = (sH P + k) + 1 by omega, fl, fl_out hW (sH P + k) a (sH P + k) (by omega) (Or.inr (by omega)), if_pos (by have := fl_le hW (sH P + k) a b; omega)]
    exact fl_more hW ha hb k
theorem fl_9 {P : SP} (hW : WQ P) {a b : Nat} (ha : a < sH P) (hb : b < sH P) : fl P 9 a b = fl P (sH P) a b := by
  have h := fl_more hW ha hb (9 - sH P)
  rw [show sH P + (9 - sH P) = 9 by have := hW.1; omega] at h
  exact h
theorem fl_row (P : SP) (m a : Nat) : fl P (m + 1) a m = fl P m a m := by rw [fl, fl_diag, Nat.add_zero, if_pos (Nat.le_refl _)]
theorem fl_col (P : SP) (m b : Nat) : fl P (m + 1) m b = fl P m m b := by rw [fl, fl_diag, Nat.zero_add, if_pos (Nat.le_refl _)]
set_option maxHeartbeats 1000000 in
theorem r_findFar {σ : nh_S} {P : SP} (hW : WQ P) (h4 : ∀ a b, a < 9 → b < 9 → σ.2.1 4 (9 * a + b) = nI (sWy P a b)) {Q : Option Value → nh_S → Prop} (hQ : ∀ τ, frA [14] σ τ → (∀ a b, a < 9 → b < 9 → τ.2.1 14 (9 * a + b) = nI (fl P 9 a b)) → Q none τ) : nh_E kX9_findFar 0 [some (.ref 0), none, none, none] [] σ Q := by
  have ed : ∀ k, k < 81 → nI k / 9 = nI (k / 9) := fun k hk => pk_div (a := k) (d := 9) (by omega) (by decide) (by decide)
  have em : ∀ k, k < 81 → nI k - nI (k / 9) * 9 = nI (k % 9) := fun k hk => by
    have h := pk_rem (a := k) (d := 9) (by omega) (by omega) (by omega)
    rw [show nI 9 = (9 : Int32) from rfl, ed k hk] at h
    exact h
  refine sg_X9_findFar_0 ?_
  refine nh_loop (α := nh_S) (fun k τ => nh_E kX9_findFar 2 [some (.ref 0), some (.int (nI k)), none, none] [] τ Q) (fun k τ => frA [14] σ τ ∧ ∀ j, j < k → τ.2.1 14 j = nI (fl P 0 (j / 9) (j % 9))) 81 ?_ ?_ 81 0 σ rfl ⟨frA.rf _ _, fun j hj => by omega⟩
  · rintro τ ⟨t1, t2⟩
    refine sg_X9_findFar_2 _ (pk_le 81 81 (fun _ => ?_) (fun c => by omega))
    refine nh_loop (α := nh_S) (fun m υ => nh_E kX9_findFar 58 [some (.ref 0), some (.int (nI m)), none, none] [] υ Q) (fun m υ => frA [14] σ υ ∧ ∀ j, j < 81 → υ.2.1 14 j = nI (fl P m (j / 9) (j % 9))) 9 ?_ ?_ 9 0 τ rfl ⟨t1, t2⟩
    · rintro υ ⟨u1, u2⟩
      refine sg_X9_findFar_58 _ (pk_le 9 9 (fun _ => hQ υ u1 (fun a b ha hb => ?_)) (fun c => by omega))
      rw [u2 (9 * a + b) (by omega), show (9 * a + b) / 9 = a by omega, show (9 * a + b) % 9 = b by omega]
    · rintro m υ hm ⟨u1, u2⟩ ih
      refine sg_X9_findFar_58 _ (pk_le 9 m (fun c => by omega) (fun _ => ?_))
      refine nh_loop (α := nh_S) (fun k ρ => nh_E kX9_findFar 66 [some (.ref 0), some (.int (nI m)), some (.int (nI k)), none] [] ρ Q) (fun k ρ => frA [14] σ ρ ∧ ∀ j, j < 81 → ρ.2.1 14 j = nI (if j < k then fl P (m + 1) (j / 9) (j % 9) else fl P m (j / 9) (j % 9))) 81 ?_ ?_ 81 0 υ rfl ⟨u1, fun j hj => by rw [if_neg (by omega)]; exact u2 j hj⟩
      · rintro ρ ⟨r1, r2⟩
        refine sg_X9_findFar_66 _ _ (pk_le 81 81 (fun _ => ?_) (fun c => by omega))
        rw [nI_1]
        exact ih ρ ⟨r1, fun j hj => by rw [r2 j hj, if_pos hj]⟩
      · rintro k ρ hk ⟨r1, r2⟩ ih2
        refine sg_X9_findFar_66 _ _ (pk_le 81 k (fun c => by omega) (fun _ => ?_))
        have e1 : nI k / 9 * 9 + nI m = nI (9 * (k / 9) + m) := by rw [ed k hk, show (9 : Int32) = nI 9 from rfl, pk_mul, nI_add, Nat.mul_comm]
        have e2 : (9 : Int32) * nI m + (nI k - nI k / 9 * 9) = nI (9 * m + k % 9) := by rw [ed k hk, em k hk, show (9 : Int32) = nI 9 from rfl, pk_mul, nI_add]
        have v1 : ρ.2.1 14 (9 * (k / 9) + m) = nI (fl P m (k / 9) m) := by
          rw [r2 _ (by omega), show (9 * (k / 9) + m) / 9 = k / 9 by omega, show (9 * (k / 9) + m) % 9 = m by omega, fl_row]
          split <;> rfl
        have v2 : ρ.2.1 14 (9 * m + k % 9) = nI (fl P m m (k % 9)) := by
          rw [r2 _ (by omega), show (9 * m + k % 9) / 9 = m by omega, show (9 * m + k % 9) % 9 = k % 9 by omega, fl_col]
          split <;> rfl
        have v3 : ρ.2.1 14 k = nI (fl P m (k / 9) (k % 9)) := by rw [r2 k hk, if_neg (by omega)]
        have b1 := fl_le hW m (k / 9) m
        have b2 := fl_le hW m m (k % 9)
        have b3 := fl_le hW m (k / 9) (k % 9)
        rw [e1, e2, nI_1, pk_cl (9 * (k / 9) + m) rfl (by omega), pk_cl (9 * m + k % 9) rfl (by omega), pk_cl k rfl (by omega), v1, v2, v3, nI_add]
        refine ⟨pk_in (9 * (k / 9) + m) 81 (by omega), pk_in (9 * m + k % 9) 81 (by omega), pk_in k 81 hk, ih2 _ ⟨r1.wa _ _ (by decide), fun j hj => ?_⟩⟩
        rw [bs_get]
        by_cases e : j = k
        · subst e
          rw [if_pos ⟨rfl, rfl⟩, if_pos (show j < j + 1 by omega), fl]
          have hle := nI_leI (a := fl P m (j / 9) (j % 9)) (b := fl P m (j / 9) m + fl P m m (j % 9)) (by omega) (by omega)
          by_cases c : fl P m (j / 9) (j % 9) ≤ fl P m (j / 9) m + fl P m m (j % 9)
          · rw [if_pos c, if_pos (hle.mpr c)]
          · rw [if_neg c, if_neg (fun q => c (hle.mp q))]
        · rw [if_neg (fun q => e q.2), r2 j hj]
          by_cases c : j < k
          · rw [if_pos c, if_pos (by omega)]
          · rw [if_neg c, if_neg (by omega)]
  · rintro k τ hk ⟨t1, t2⟩ ih
    refine sg_X9_findFar_2 _ (pk_le 81 k (fun c => by omega) (fun _ => ?_))
    have v4 : τ.2.1 4 k = nI (sWy P (k / 9) (k % 9)) := by
      have := h4 (k / 9) (k % 9) (by omega) (by omega)
      rw [show 9 * (k / 9) + k % 9 = k by omega] at this
      rw [t1.2 4 (by decide)]
      exact this
    have b1 := (hW.2.2.2.2 (k / 9) (k % 9)).1
    rw [ed k hk, em k hk, nI_1, pk_cl k rfl (by omega), v4]
    refine ⟨fun _ => pk_in k 162 (by omega), pk_in k 81 hk, ih _ ⟨t1.wa _ _ (by decide), fun j hj => ?_⟩⟩
    rw [bs_get]
    by_cases e : j = k
    · subst e
      rw [if_pos ⟨rfl, rfl⟩, fl]
      have hq := nI_eq (a := j / 9) (b := j % 9) (by omega) (by omega)
      by_cases c : j / 9 = j % 9
      · rw [if_pos c, if_pos (hq.mpr c)]; rfl
      · rw [if_neg c, if_neg (fun q => c (hq.mp q))]
        by_cases c2 : sWy P (j / 9) (j % 9) = 0
        · rw [if_pos c2, c2, if_pos (by decide)]; rfl
        · rw [if_neg c2, if_neg (nI_nle (by omega) (by omega))]
    · rw [if_neg (fun q => e q.2)]
      exact t2 j (by omega)
