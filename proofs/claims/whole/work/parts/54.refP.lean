/-! THE REFERENCE: a parish is read -/
def rst (τ : nh_S) (w : Rs SP) : Prop := match w with
  | .error z => bdy τ z
  | .ok y => τ.1 0 17 = nI y.2 ∧ snd τ ∧ RQ τ y.1
theorem nPart_RQ {σ τ : nh_S} {P : SP} {h m g B : Nat} (hR : RQ σ P) (a5 : τ.2.1 5 (12 + sP P) = nI h) (a6 : τ.2.1 6 (12 + sP P) = nI m) (a7 : τ.2.1 7 (12 + sP P) = nI g) (a8 : τ.2.1 8 (12 + sP P) = nI B) (a9 : τ.2.1 9 3 = nI (sP P + 1)) (hf : ∀ k i, ¬ ((k = 5 ∨ k = 6 ∨ k = 7 ∨ k = 8) ∧ i = 12 + sP P) → (k ≠ 9 ∨ i ≠ 3) → τ.2.1 k i = σ.2.1 k i) : RQ τ (nPart P h m g B) := by
  obtain ⟨r1, r2, r3, r4, r5⟩ := hR
  have w : ∀ t, t ∉ [1, 2, 3, 4, 9] → nPart P h m g B t = P t := fun t ht => by
    simp at ht
    unfold nPart
    rw [sUp_ne _ (by omega), sUp_ne _ (by omega), sUp_ne _ (by omega), sUp_ne _ (by omega), sUp_ne _ (by omega)]
  have eP : nPart P h m g B 1 0 0 = P 1 0 0 + 1 := by unfold nPart; rw [sUp_at, if_pos ⟨rfl, rfl⟩]
  have e9 : ∀ p, nPart P h m g B 9 p 0 = if p = sP P then h else P 9 p 0 := fun p => by unfold nPart; rw [sUp_ne _ (by omega), sUp_ne _ (by omega), sUp_ne _ (by omega), sUp_ne _ (by omega), sUp_at]; simp
  have e2 : ∀ p, nPart P h m g B 2 p 0 = if p = sP P then m else P 2 p 0 := fun p => by unfold nPart; rw [sUp_ne _ (by omega), sUp_ne _ (by omega), sUp_ne _ (by omega), sUp_at, sUp_ne _ (by omega)]; simp
  have e3 : ∀ p, nPart P h m g B 3 p 0 = if p = sP P then g else P 3 p 0 := fun p => by unfold nPart; rw [sUp_ne _ (by omega), sUp_ne _ (by omega), sUp_at, sUp_ne _ (by omega), sUp_ne _ (by omega)]; simp
  have e4 : ∀ p, nPart P h m g B 4 p 0 = if p = sP P then B else P 4 p 0 := fun p => by unfold nPart; rw [sUp_ne _ (by omega), sUp_at, sUp_ne _ (by omega), sUp_ne _ (by omega), sUp_ne _ (by omega)]; simp
  unfold RQ
  simp only [sH, sP, sWk, sKy, sOd, sKp, sMi, sGa, sBe, sWy] at r1 r2 r3 r4 r5 a5 a6 a7 a8 a9 hf e9 e2 e3 e4 ⊢
  rw [w 0 (by decide), w 6 (by decide), w 7 (by decide), w 8 (by decide), w 27 (by decide), eP]
  refine ⟨by rw [hf 9 2 (by omega) (by omega)]; exact r1, a9, fun x hx => ?_, fun p hp => ?_, fun a b ha hb => by rw [hf 4 _ (by omega) (by omega)]; exact r5 a b ha hb⟩
  · obtain ⟨q1, q2, q3⟩ := r3 x hx
    refine ⟨by rw [hf 3 _ (by omega) (by omega)]; exact q1, by rw [hf 3 _ (by omega) (by omega)]; exact q2, fun q hq => by rw [hf 3 _ (by omega) (by omega)]; exact q3 q hq⟩
  · rw [e9, e2, e3, e4]
    rcases (show p = P 1 0 0 ∨ p < P 1 0 0 by omega) with q | q
    · rw [if_pos q, if_pos q, if_pos q, if_pos q, q]
      exact ⟨a5, a6, a7, a8⟩
    · rw [if_neg (by omega), if_neg (by omega), if_neg (by omega), if_neg (by omega), hf 5 _ (by omega) (by omega), hf 6 _ (by omega) (by omega), hf 7 _ (by omega) (by omega), hf 8 _ (by omega) (by omega)]
      exact r4 p q
set_option maxHeartbeats 1000000 in
theorem r_takePart {σ : nh_S} {T : Nat → Nat} {n a s : Nat} {P : SP} (ht : rt σ T n) (h17 : σ.1 0 17 = nI a) (ha : a ≤ n) (h20 : snd σ) (hR : RQ σ P) (hW : WQ P) {Q : Option Value → nh_S → Prop}
    (hQ : ∀ (w : Rs SP), w = (if 12 ≤ sP P then .error (3, s) else rb (tkN T n 0 (sH P) a) (fun h e => rb (tkN T n 0 61 e) (fun m e2 => rb (tkN T n 0 100 e2) (fun g e3 => rb (tkOn T n (sP P) e3) (fun B e4 => .ok (nPart P h.1 m.1 g.1 B, e4)))))) → ∀ τ, frT σ τ → rst τ w → Q none τ) :
    nh_E kX9_takePart 0 [some (.ref 0), some (.int (nI s)), none, none, none] [] σ Q := by
  have h9 := hW.1
  have h12 := hW.2.1
  refine sg_X9_takePart_0 _ ?_
  have e12 : (12 : Int32) + nI (sP P) = nI (12 + sP P) := nI_add 12 _
  rw [hR.2.1]
  have hc : ¬ (12 : Int32) ≤ nI (sP P) ↔ ¬ 12 ≤ sP P := by rw [show (12 : Int32) = nI 12 from rfl, nI_leI (by omega) (by omega)]
  refine r_want h20.1 (by decide) (fun g => ⟨_, rfl, fun q => absurd q (by decide), fun _ => ?_⟩) (fun g => ⟨_, rfl, fun _ => ?_, fun q => absurd rfl q⟩)
  · have hp := hc.mp g
    rw [if_neg hp] at hQ
    rw [e12, hR.1, pk_cl (12 + sP P) rfl (by omega)]
    have hsc5 : scr 5 (12 + sP P) := by unfold scr; omega
    have hsc6 : scr 6 (12 + sP P) := by unfold scr; omega
    have hsc7 : scr 7 (12 + sP P) := by unfold scr; omega
    have hsc8 : scr 8 (12 + sP P) := by unfold scr; omega
    have hsc9 : scr 9 3 := by unfold scr; omega
    have hin : vp_in (nI (12 + sP P)) 24 := pk_in (12 + sP P) 24 (by omega)
    refine r_takeNumber (lo := 0) (hi := sH P) ht h17 ha h20.1 (by omega) (by omega) rfl (fun z hz τ r t1 t2 => ⟨_, rfl, hin, ?_⟩) (fun h e1 hh τ t1 t2 t3 => ⟨_, rfl, hin, ?_⟩)
    · rw [hz, rb_bad] at hQ
      refine r_takeNumber_f (t2.wa _ _ _) ⟨_, rfl, hin, ?_⟩
      refine r_takeNumber_f ((t2.wa _ _ _).wa _ _ _) ⟨_, rfl, hin, fun _ => ?_, fun q => absurd q t2.ne⟩
      exact hQ _ rfl _ ((((((t1.T (by decide)).wa _ hsc5).wa _ hsc6).wa _ hsc7).wa _ hsc8).wa _ hsc9) t2
    · rw [hh, rb_ok] at hQ
      have he1 := (show fine n a (tkN T n 0 (sH P) a) from tkN_fine ha)
      rw [hh] at he1
      have f1 : frT σ (nh_wa τ 5 (12 + sP P) (nI h.1)) := (t1.T (by decide)).wa _ hsc5
      have s1 : snd (nh_wa τ 5 (12 + sP P) (nI h.1)) := (h20.fr t1 (by decide) (by decide)).wa _ _ _
      have o1 : ∀ k i, ¬ (k = 5 ∧ i = 12 + sP P) → (nh_wa τ 5 (12 + sP P) (nI h.1)).2.1 k i = σ.2.1 k i := fun k i hk => by rw [bs_get, if_neg hk, t1.1]
      have v5 : (nh_wa τ 5 (12 + sP P) (nI h.1)).2.1 5 (12 + sP P) = nI h.1 := by rw [bs_get, if_pos ⟨rfl, rfl⟩]
      have p1 : (nh_wa τ 5 (12 + sP P) (nI h.1)).1 0 17 = nI e1 := t2
      generalize nh_wa τ 5 (12 + sP P) (nI h.1) = τ' at f1 s1 o1 v5 p1
      refine r_takeNumber (lo := 0) (hi := 61) (ht.T f1) p1 he1.2 s1.1 (by omega) (by omega) (by decide) (fun z hz υ r u1 u2 => ⟨_, rfl, hin, ?_⟩) (fun m e2 hm υ u1 u2 u3 => ⟨_, rfl, hin, ?_⟩)
      · rw [hz, rb_bad] at hQ
        refine r_takeNumber_f (u2.wa _ _ _) ⟨_, rfl, hin, fun _ => ?_, fun q => absurd q u2.ne⟩
        exact hQ _ rfl _ (((((f1.tr (u1.T (by decide))).wa _ hsc6).wa _ hsc7).wa _ hsc8).wa _ hsc9) u2
      · rw [hm, rb_ok] at hQ
        have he2 := (show fine n e1 (tkN T n 0 61 e1) from tkN_fine he1.2)
        rw [hm] at he2
        have f2 : frT σ (nh_wa υ 6 (12 + sP P) (nI m.1)) := (f1.tr (u1.T (by decide))).wa _ hsc6
        have s2 : snd (nh_wa υ 6 (12 + sP P) (nI m.1)) := (s1.fr u1 (by decide) (by decide)).wa _ _ _
        have o2 : ∀ k i, ¬ ((k = 5 ∨ k = 6) ∧ i = 12 + sP P) → (nh_wa υ 6 (12 + sP P) (nI m.1)).2.1 k i = σ.2.1 k i := fun k i hk => by rw [bs_get, if_neg (by omega), u1.1]; exact o1 k i (by omega)
        have v52 : (nh_wa υ 6 (12 + sP P) (nI m.1)).2.1 5 (12 + sP P) = nI h.1 := by rw [bs_get, if_neg (by omega), u1.1]; exact v5
        have v62 : (nh_wa υ 6 (12 + sP P) (nI m.1)).2.1 6 (12 + sP P) = nI m.1 := by rw [bs_get, if_pos ⟨rfl, rfl⟩]
        have p2 : (nh_wa υ 6 (12 + sP P) (nI m.1)).1 0 17 = nI e2 := u2
        generalize nh_wa υ 6 (12 + sP P) (nI m.1) = υ' at f2 s2 o2 v52 v62 p2
        refine r_takeNumber (lo := 0) (hi := 100) (ht.T f2) p2 he2.2 s2.1 (by omega) (by omega) (by decide) (fun z hz ρ r r1 r2 => ⟨_, rfl, hin, fun _ => ?_, fun q => absurd q r2.ne⟩) (fun g3 e3 hg ρ r1 r2 r3 => ⟨_, rfl, hin, fun q => ?_, fun _ => ?_⟩)
        · rw [hz, rb_bad] at hQ
          exact hQ _ rfl _ ((((f2.tr (r1.T (by decide))).wa _ hsc7).wa _ hsc8).wa _ hsc9) r2
        · exact absurd (s2.fr r1 (by decide) (by decide)).1 q
        · rw [hg, rb_ok] at hQ
          have he3 := (show fine n e2 (tkN T n 0 100 e2) from tkN_fine he2.2)
          rw [hg] at he3
          have f3 : frT σ (nh_wa (nh_wa ρ 7 (12 + sP P) (nI g3.1)) 8 (12 + sP P) 0) := ((f2.tr (r1.T (by decide))).wa _ hsc7).wa _ hsc8
          have s3 : snd (nh_wa (nh_wa ρ 7 (12 + sP P) (nI g3.1)) 8 (12 + sP P) 0) := ((s2.fr r1 (by decide) (by decide)).wa _ _ _).wa _ _ _
          have o3 : ∀ k i, ¬ ((k = 5 ∨ k = 6 ∨ k = 7 ∨ k = 8) ∧ i = 12 + sP P) → (nh_wa (nh_wa ρ 7 (12 + sP P) (nI g3.1)) 8 (12 + sP P) 0).2.1 k i = σ.2.1 k i := fun k i hk => by rw [bs_get, if_neg (by omega), bs_get, if_neg (by omega), r1.1]; exact o2 k i (by omega)
          have v53 : (nh_wa (nh_wa ρ 7 (12 + sP P) (nI g3.1)) 8 (12 + sP P) 0).2.1 5 (12 + sP P) = nI h.1 := by rw [bs_get, if_neg (by omega), bs_get, if_neg (by omega), r1.1]; exact v52
          have v63 : (nh_wa (nh_wa ρ 7 (12 + sP P) (nI g3.1)) 8 (12 + sP P) 0).2.1 6 (12 + sP P) = nI m.1 := by rw [bs_get, if_neg (by omega), bs_get, if_neg (by omega), r1.1]; exact v62
          have v73 : (nh_wa (nh_wa ρ 7 (12 + sP P) (nI g3.1)) 8 (12 + sP P) 0).2.1 7 (12 + sP P) = nI g3.1 := by rw [bs_get, if_neg (by omega), bs_get, if_pos ⟨rfl, rfl⟩]
          have v83 : (nh_wa (nh_wa ρ 7 (12 + sP P) (nI g3.1)) 8 (12 + sP P) 0).2.1 8 (12 + sP P) = nI 0 := by rw [bs_get, if_pos ⟨rfl, rfl⟩]; rfl
          have p3 : (nh_wa (nh_wa ρ 7 (12 + sP P) (nI g3.1)) 8 (12 + sP P) 0).1 0 17 = nI e3 := r2
          generalize nh_wa (nh_wa ρ 7 (12 + sP P) (nI g3.1)) 8 (12 + sP P) 0 = ρ' at f3 s3 o3 v53 v63 v73 v83 p3
          have hls := sk_le (T := T) he3.2
          have hll := lte_le (T := T) hls
          refine r_takeWord (ht.T f3) p3 he3.2 (fun κ k1 k2 k3 k4 => ⟨rfl, ?_⟩)
          have f4 : frT σ κ := f3.tr (k1.T (by decide))
          have s4 := s3.fr k1 (by decide) (by decide)
          refine r_isWord (w := [111, 110]) (ht.T f4) he3.2 k3 k4 rfl (by decide) (by decide) ⟨_, rfl, ?_⟩
          dsimp only
          by_cases hon : wd T n e3 [111, 110] = true
          · rw [if_pos hon, if_neg (by decide), k2]
            have etk : tkOn T n (sP P) e3 = tkQ T n (sP P) 12 0 (lte T n (sk T n e3)) := by unfold tkOn; rw [if_pos hon]
            rw [etk] at hQ
            refine r_part_on (by omega) 12 0 (lte T n (sk T n e3)) _ (ht.T (f4.si _ (by decide))) (by rw [bs_geti, if_pos ⟨rfl, rfl⟩]) hll (s4.si _ (by decide) (by decide)) (Nat.two_pow_pos _) (by decide) (by show κ.2.1 8 _ = _; rw [k1.1]; exact v83) (fun w hw κ2 q1 q2 q3 => ?_)
            rw [← hw] at hQ
            refine hQ _ rfl κ2 ((f4.si _ (by decide)).tr q1) ?_
            cases w with
            | error z => exact q2
            | ok y =>
              obtain ⟨j1, j2, j3, j4, j5⟩ := q2
              have jo : ∀ k i, (k ≠ 8 ∨ i ≠ 12 + sP P) → (k ≠ 9 ∨ i ≠ 3) → κ2.2.1 k i = ρ'.2.1 k i := fun k i h1 h2 => by rw [j5 k i h1 h2]; show κ.2.1 k i = _; rw [k1.1]
              refine ⟨j1, j2, nPart_RQ hR (by rw [jo 5 _ (by omega) (by omega)]; exact v53) (by rw [jo 6 _ (by omega) (by omega)]; exact v63) (by rw [jo 7 _ (by omega) (by omega)]; exact v73) j4 q3 (fun k i h1 h2 => ?_)⟩
              rw [jo k i (by omega) h2]
              exact o3 k i h1
          · rw [if_neg hon, if_pos rfl, k3]
            have etk : tkOn T n (sP P) e3 = .ok (0, sk T n e3) := by unfold tkOn; rw [if_neg hon]
            rw [etk, rb_ok] at hQ
            refine sg_X9_takePart_134 _ _ ⟨fun _ => ?_, fun q => absurd rfl q⟩
            rw [nI_1]
            have jo : ∀ k i, (k ≠ 9 ∨ i ≠ 3) → (nh_wa (nh_si κ 0 17 (nI (sk T n e3))) 9 3 (nI (sP P + 1))).2.1 k i = ρ'.2.1 k i := fun k i h1 => by rw [bs_get, if_neg (by omega)]; show κ.2.1 k i = _; rw [k1.1]
            refine hQ _ rfl _ ((f4.si _ (by decide)).wa _ hsc9) ⟨by rw [bs_wa1, bs_geti, if_pos ⟨rfl, rfl⟩], (s4.si _ (by decide) (by decide)).wa _ _ _, nPart_RQ hR (by rw [jo 5 _ (by omega)]; exact v53) (by rw [jo 6 _ (by omega)]; exact v63) (by rw [jo 7 _ (by omega)]; exact v73) (by rw [jo 8 _ (by omega)]; exact v83) (by rw [bs_get, if_pos ⟨rfl, rfl⟩]) (fun k i h1 h2 => ?_)⟩
            rw [jo k i h2]
            exact o3 k i h1
  · have hp : 12 ≤ sP P := Classical.byContradiction (fun q => g (hc.mpr q))
    rw [if_pos hp] at hQ
    exact hQ _ rfl _ (((frT.rf σ).si _ (by decide)).si _ (by decide)) (bdy.mk' (c := 3) (by omega) (by omega))
theorem rb_assoc {α β γ : Type} (x : Rs α) (f : α → Nat → Rs β) (g : β → Nat → Rs γ) : rb (rb x f) g = rb x (fun v e => rb (f v e) g) := by cases x <;> rfl
theorem rb_if {α β : Type} {c : Prop} [Decidable c] (z : Nat × Nat) (y : Rs α) (g : α → Nat → Rs β) : rb (if c then .error z else y) g = if c then .error z else rb y g := by split <;> rfl
/-- the end of a clause -/
def tkX (T : Nat → Nat) (n : Nat) (w : Rs SP) : Rs SP := rb w (fun P e => rb (tkE T n e) (fun _ e2 => .ok (P, e2)))
theorem tkHouse_eq (T : Nat → Nat) (n : Nat) (P : SP) (s a : Nat) : tkHouse T n P s a = tkX T n (if 9 ≤ sH P then .error (3, s) else rb (tkL T n [61, 61, 101, 101, 101, 101] a) (fun vs e => .ok (nHouse P vs, e))) := by
  unfold tkHouse tkX
  rw [rb_if, rb_assoc]
  rfl
theorem tkWay_eq (T : Nat → Nat) (n : Nat) (P : SP) (a : Nat) : tkWay T n P a = tkX T n (rb (tkN T n 0 (sH P) a) (fun x e => rb (tkN T n 0 (sH P) e) (fun y e2 => if x.1 = y.1 ∨ sWy P x.1 y.1 ≠ 0 then .error (4, y.2) else rb (tkN T n 1 100 e2) (fun m e3 => .ok (nWay P x.1 y.1 m.1, e3))))) := by
  unfold tkWay tkX
  simp only [rb_assoc, rb_if, rb_ok]
theorem tkPart_eq (T : Nat → Nat) (n : Nat) (P : SP) (s a : Nat) : tkPart T n P s a = tkX T n (if 12 ≤ sP P then .error (3, s) else rb (tkN T n 0 (sH P) a) (fun h e => rb (tkN T n 0 61 e) (fun m e2 => rb (tkN T n 0 100 e2) (fun g e3 => rb (tkOn T n (sP P) e3) (fun B e4 => .ok (nPart P h.1 m.1 g.1 B, e4)))))) := by
  unfold tkPart tkX
  simp only [rb_assoc, rb_if, rb_ok]
theorem r_endAfter {σ τ : nh_S} {T : Nat → Nat} {n : Nat} {w : Rs SP} (ht : rt τ T n) (hw : ∀ y, w = .ok y → y.2 ≤ n) (hs : rst τ w) (hf : frT σ τ) {Q : Option Value → nh_S → Prop} (hQ : ∀ υ, frT σ υ → rst υ (tkX T n w) → Q none υ) : nh_E kX9_takeEnd 0 [some (.ref 0)] [] τ (nh_qv fun τ1 => Q none τ1) := by
  cases w with
  | error z => exact r_takeEnd_f hs ⟨rfl, hQ τ hf hs⟩
  | ok y =>
    obtain ⟨P, e⟩ := y
    obtain ⟨h1, h2, h3⟩ := hs
    refine r_takeEnd ht h1 (hw _ rfl) h2.1 (fun z hz υ u1 u2 => ⟨rfl, hQ υ (hf.tr (u1.T (by decide))) ?_⟩) (fun u e2 hz υ u1 u2 => ⟨rfl, hQ υ (hf.tr (u1.T (by decide))) ?_⟩)
    · unfold tkX
      rw [rb_ok, hz]
      exact u2
    · unfold tkX
      rw [rb_ok, hz]
      exact ⟨u2, h2.fr u1 (by decide) (by decide), h3.fr (by rw [u1.1])⟩
theorem fine_ok {α : Type} {n a : Nat} {w : Rs α} (h : fine n a w) : ∀ y, w = .ok y → y.2 ≤ n := by
  rintro y rfl
  exact h.2
theorem r_takeClause {σ : nh_S} {T : Nat → Nat} {n a : Nat} {P : SP} (ht : rt σ T n) (h17 : σ.1 0 17 = nI a) (ha : a ≤ n) (h20 : snd σ) (hR : RQ σ P) (hW : WQ P) {Q : Option Value → nh_S → Prop}
    (hQ : ∀ τ, frT σ τ → rst τ (tkC T n P a) → Q none τ) :
    nh_E kX9_takeClause 0 [some (.ref 0), none] [] σ Q := by
  have hls := sk_le (T := T) ha
  have hll := lte_le (T := T) hls
  refine sg_X9_takeClause_0 ?_
  refine r_takeWord ht h17 ha (fun τ t1 t2 t3 t4 => ⟨rfl, ?_⟩)
  have f1 : frT σ τ := t1.T (by decide)
  have s1 := h20.fr t1 (by decide) (by decide)
  have R1 : RQ τ P := hR.fr (by rw [t1.1])
  have ht1 := ht.T f1
  dsimp only
  rw [t3]
  unfold tkC at hQ
  refine r_isWord (w := [104, 111, 117, 115, 101]) ht1 ha t3 t4 rfl (by decide) (by decide) ⟨_, rfl, ?_⟩
  by_cases w1 : wd T n a [104, 111, 117, 115, 101] = true
  · rw [if_pos w1] at hQ ⊢
    rw [tkHouse_eq] at hQ
    refine ⟨fun q => absurd q (by decide), fun _ => ?_⟩
    have hfi : fine n (lte T n (sk T n a)) (if 9 ≤ sH P then .error (3, sk T n a) else rb (tkL T n [61, 61, 101, 101, 101, 101] (lte T n (sk T n a))) (fun vs e => .ok (nHouse P vs, e))) := by
      split
      · exact ⟨by omega, by omega, hls⟩
      · exact fine_bind (tkL_fine hll) (fun vs e _ _ he => ⟨Nat.le_refl _, he⟩)
    refine r_takeHouse ht1 t2 hll s1 R1 hW (fun h3 υ u1 u2 => ⟨rfl, ?_⟩) (fun h3 z hz υ u1 u2 => ⟨rfl, ?_⟩) (fun h3 vs e hv υ u1 u2 u3 u4 => ⟨rfl, ?_⟩)
    · rw [if_pos h3] at hQ hfi
      exact r_endAfter (w := .error (3, sk T n a)) (ht1.T u1) (fine_ok hfi) u2 (f1.tr u1) (fun κ k1 k2 => hQ κ k1 k2)
    · rw [if_neg h3, hz, rb_bad] at hQ hfi
      exact r_endAfter (w := .error z) (ht1.T u1) (fine_ok hfi) u2 (f1.tr u1) (fun κ k1 k2 => hQ κ k1 k2)
    · rw [if_neg h3, hv, rb_ok] at hQ hfi
      exact r_endAfter (w := .ok (nHouse P vs, e)) (ht1.T u1) (fine_ok hfi) ⟨u2, u3, u4⟩ (f1.tr u1) (fun κ k1 k2 => hQ κ k1 k2)
  · rw [if_neg w1] at hQ ⊢
    refine ⟨fun _ => ?_, fun q => absurd rfl q⟩
    refine r_isWord (w := [119, 97, 121]) ht1 ha t3 t4 rfl (by decide) (by decide) ⟨_, rfl, ?_⟩
    by_cases w2 : wd T n a [119, 97, 121] = true
    · rw [if_pos w2] at hQ ⊢
      rw [tkWay_eq] at hQ
      refine ⟨fun q => absurd q (by decide), fun _ => ?_⟩
      refine r_takeWay ht1 t2 hll s1 R1 hW (fun w hw υ u1 u2 => ⟨rfl, ?_⟩)
      rw [← hw] at hQ
      have hfi : fine n (lte T n (sk T n a)) w := by
        rw [hw]
        refine fine_bind (tkN_fine hll) (fun x e _ _ he => fine_bind (tkN_fine he) (fun y e2 hy _ he2 => ?_))
        split
        · exact ⟨by omega, by omega, by have := tkN_s he hy; exact this⟩
        · exact fine_bind (tkN_fine he2) (fun _ e3 _ _ he3 => ⟨Nat.le_refl _, he3⟩)
      exact r_endAfter (w := w) (ht1.T u1) (fine_ok hfi) u2 (f1.tr u1) (fun κ k1 k2 => hQ κ k1 k2)
    · rw [if_neg w2] at hQ ⊢
      refine ⟨fun _ => ?_, fun q => absurd rfl q⟩
      refine r_isWord (w := [112, 97, 114, 116]) ht1 ha t3 t4 rfl (by decide) (by decide) ⟨_, rfl, ?_⟩
      refine r_want s1.1 (by decide) (fun w3 => ⟨_, rfl, fun q => absurd q (by decide), fun _ => ?_⟩) (fun w3 => ⟨_, rfl, fun _ => ?_, fun q => absurd rfl q⟩)
      · rw [if_pos w3, tkPart_eq] at hQ
        refine r_takePart ht1 t2 hll s1 R1 hW (fun w hw υ u1 u2 => ⟨rfl, ?_⟩)
        rw [← hw] at hQ
        have hfi : fine n (lte T n (sk T n a)) w := by
          rw [hw]
          split
          · exact ⟨by omega, by omega, hls⟩
          · exact fine_bind (tkN_fine hll) (fun _ e _ _ he => fine_bind (tkN_fine he) (fun _ e2 _ _ he2 => fine_bind (tkN_fine he2) (fun _ e3 _ _ he3 => fine_bind (tkOn_fine he3) (fun _ e4 _ _ he4 => ⟨Nat.le_refl _, he4⟩))))
        exact r_endAfter (w := w) (ht1.T u1) (fine_ok hfi) u2 (f1.tr u1) (fun κ k1 k2 => hQ κ k1 k2)
      · rw [if_neg w3] at hQ
        have hb : bdy (nh_si (nh_si τ 0 20 1) 0 21 (nI (sk T n a))) (1, sk T n a) := bdy.mk' (c := 1) (by omega) (by omega)
        exact r_takeEnd_f hb ⟨rfl, hQ _ ((f1.si _ (by decide)).si _ (by decide)) hb⟩
