/-! THE SPEC STATE: numbers by tag and two places -/
abbrev SP : Type := Nat → Nat → Nat → Nat
abbrev sH (S : SP) : Nat := S 0 0 0
abbrev sP (S : SP) : Nat := S 1 0 0
abbrev sMi (S : SP) (p : Nat) : Nat := S 2 p 0
abbrev sGa (S : SP) (p : Nat) : Nat := S 3 p 0
abbrev sBe (S : SP) (p : Nat) : Nat := S 4 p 0
abbrev sFar (S : SP) (a b : Nat) : Nat := S 5 a b
abbrev sOd (S : SP) (q h : Nat) : Nat := S 6 q h
abbrev sWk (S : SP) (h : Nat) : Nat := S 7 h 0
abbrev sKy (S : SP) (h : Nat) : Nat := S 8 h 0
abbrev sKp (S : SP) (p : Nat) : Nat := S 9 p 0
abbrev sFt (S : SP) (p : Nat) : Nat := S 10 p 0
abbrev sAw (S : SP) : Nat := S 11 0 0
abbrev sSd (S : SP) : Nat := S 12 0 0
abbrev sCs (S : SP) (p : Nat) : Nat := S 13 p 0
abbrev sSt (S : SP) : Nat := S 14 0 0
abbrev sLg (S : SP) (p : Nat) : Nat := S 15 p 0
abbrev sPn (S : SP) : Nat := S 16 0 0
abbrev sPa (S : SP) (i : Nat) : Nat := S 17 i 0
abbrev sPb (S : SP) (i : Nat) : Nat := S 18 i 0
abbrev sTn (S : SP) : Nat := S 19 0 0
abbrev sTx (S : SP) (i : Nat) : Nat := S 20 i 0
abbrev sFa (S : SP) : Nat := S 21 0 0
abbrev sIm (S : SP) (i : Nat) : Nat := S 22 i 0
abbrev sIk (S : SP) (i p : Nat) : Nat := S 23 i p
abbrev sIf (S : SP) (i p : Nat) : Nat := S 24 i p
abbrev sIa (S : SP) (i : Nat) : Nat := S 25 i 0
abbrev sIs (S : SP) (i : Nat) : Nat := S 26 i 0
def sUp (S : SP) (t i j v : Nat) : SP := fun t' i' j' => if t' = t ∧ i' = i ∧ j' = j then v else S t' i' j'
theorem sUp_ne (S : SP) {t t' : Nat} (h : t' ≠ t) (i j v : Nat) : sUp S t i j v t' = S t' := by
  funext i' j'
  unfold sUp
  rw [if_neg (fun q => h q.1)]
theorem sUp_at (S : SP) (t i j v i' j' : Nat) : sUp S t i j v t i' j' = if i' = i ∧ j' = j then v else S t i' j' := by
  unfold sUp
  simp
/-- a whole tag -/
def sTag (S : SP) (t : Nat) (f : Nat → Nat → Nat) : SP := fun t' => if t' = t then f else S t'
theorem sTag_ne (S : SP) {t t' : Nat} (h : t' ≠ t) (f : Nat → Nat → Nat) : sTag S t f t' = S t' := by
  unfold sTag
  rw [if_neg h]
theorem sTag_at (S : SP) (t : Nat) (f : Nat → Nat → Nat) : sTag S t f t = f := by
  unfold sTag
  rw [if_pos rfl]
/-- what holds of every spec state that is reached -/
def WFc (S : SP) : Prop := sH S ≤ 9 ∧ sP S ≤ 12 ∧ (∀ p, p < sP S → sMi S p ≤ 60 ∧ sGa S p ≤ 99 ∧ sBe S p < 2 ^ p) ∧ (∀ h, h < sH S → sWk S h ≤ 60 ∧ sKy S h ≤ 60 ∧ ∀ q, q < 4 → sOd S q h ≤ 100) ∧ (∀ a b, a < sH S → b < sH S → sFar S a b ≤ 500 ∧ (a = b → sFar S a b = 0) ∧ (a ≠ b → 1 ≤ sFar S a b))
def WFm (S : SP) : Prop := (∀ p, p < sP S → sKp S p < sH S ∧ sFt S p < 2 ^ sP S) ∧ sAw S < 2 ^ sH S ∧ sSd S < 2 ^ 31
def WFp (S : SP) : Prop := sPn S ≤ 20 ∧ (∀ i, i < sPn S → sPa S i < sH S ∧ sPb S i < sH S ∧ sPa S i ≠ sPb S i) ∧ ∀ i j, i < sPn S → j < sPn S → sPb S i = sPb S j → i = j
def WFx (S : SP) : Prop := (∀ p, p < sP S → sCs S p ≤ 99 ∧ sLg S p ≤ 1000) ∧ (sSt S < sH S ∨ (sH S = 0 ∧ sSt S = 0))
def WFi (S : SP) : Prop := ∀ i, i < 2 → sIm S i ≤ 1 ∧ (sIm S i = 1 → (∀ p, p < sP S → sIk S i p < sH S ∧ sIf S i p < 2 ^ sP S) ∧ sIa S i < 2 ^ sH S ∧ sIs S i < 2 ^ 31)
def WFt (S : SP) : Prop := sTn S ≤ 600 ∧ (∀ i, i < sTn S → sTx S i < 256) ∧ sFa S ≤ 601
def WF (S : SP) : Prop := WFc S ∧ WFm S ∧ WFp S ∧ WFx S ∧ WFi S ∧ WFt S
theorem WFc_tr {S T : SP} (h : WFc S) (ht : ∀ t, t < 9 → T t = S t) : WFc T := by
  unfold WFc at h ⊢
  simp only [sH, sP, sMi, sGa, sBe, sFar, sOd, sWk, sKy, sKp, sFt, sAw, sSd, sCs, sSt, sLg, sPn, sPa, sPb, sTn, sTx, sFa, sIm, sIk, sIf, sIa, sIs] at h ⊢
  rw [ht 0 (by decide), ht 1 (by decide), ht 2 (by decide), ht 3 (by decide), ht 4 (by decide), ht 5 (by decide), ht 6 (by decide), ht 7 (by decide), ht 8 (by decide)]
  exact h
theorem WFm_tr {S T : SP} (h : WFm S) (h0 : T 0 = S 0) (h1 : T 1 = S 1) (h9 : T 9 = S 9) (h10 : T 10 = S 10) (h11 : T 11 = S 11) (h12 : T 12 = S 12) : WFm T := by
  unfold WFm at h ⊢
  simp only [sH, sP, sMi, sGa, sBe, sFar, sOd, sWk, sKy, sKp, sFt, sAw, sSd, sCs, sSt, sLg, sPn, sPa, sPb, sTn, sTx, sFa, sIm, sIk, sIf, sIa, sIs] at h ⊢
  rw [h0, h1, h9, h10, h11, h12]
  exact h
theorem WFp_tr {S T : SP} (h : WFp S) (h0 : T 0 = S 0) (h16 : T 16 = S 16) (h17 : T 17 = S 17) (h18 : T 18 = S 18) : WFp T := by
  unfold WFp at h ⊢
  simp only [sH, sP, sMi, sGa, sBe, sFar, sOd, sWk, sKy, sKp, sFt, sAw, sSd, sCs, sSt, sLg, sPn, sPa, sPb, sTn, sTx, sFa, sIm, sIk, sIf, sIa, sIs] at h ⊢
  rw [h0, h16, h17, h18]
  exact h
theorem WFx_tr {S T : SP} (h : WFx S) (h0 : T 0 = S 0) (h1 : T 1 = S 1) (h13 : T 13 = S 13) (h14 : T 14 = S 14) (h15 : T 15 = S 15) : WFx T := by
  unfold WFx at h ⊢
  simp only [sH, sP, sMi, sGa, sBe, sFar, sOd, sWk, sKy, sKp, sFt, sAw, sSd, sCs, sSt, sLg, sPn, sPa, sPb, sTn, sTx, sFa, sIm, sIk, sIf, sIa, sIs] at h ⊢
  rw [h0, h1, h13, h14, h15]
  exact h
theorem WFi_tr {S T : SP} (h : WFi S) (h0 : T 0 = S 0) (h1 : T 1 = S 1) (h22 : T 22 = S 22) (h23 : T 23 = S 23) (h24 : T 24 = S 24) (h25 : T 25 = S 25) (h26 : T 26 = S 26) : WFi T := by
  unfold WFi at h ⊢
  simp only [sH, sP, sMi, sGa, sBe, sFar, sOd, sWk, sKy, sKp, sFt, sAw, sSd, sCs, sSt, sLg, sPn, sPa, sPb, sTn, sTx, sFa, sIm, sIk, sIf, sIa, sIs] at h ⊢
  rw [h0, h1, h22, h23, h24, h25, h26]
  exact h
theorem WFt_tr {S T : SP} (h : WFt S) (h19 : T 19 = S 19) (h20 : T 20 = S 20) (h21 : T 21 = S 21) : WFt T := by
  unfold WFt at h ⊢
  simp only [sH, sP, sMi, sGa, sBe, sFar, sOd, sWk, sKy, sKp, sFt, sAw, sSd, sCs, sSt, sLg, sPn, sPa, sPb, sTn, sTx, sFa, sIm, sIk, sIf, sIa, sIs] at h ⊢
  rw [h19, h20, h21]
  exact h
/-- the mask of the logged ones -/
def lgm (S : SP) : Nat := mk (fun p => decide (sLg S p ≠ 0)) (sP S)
/-! THE REFERENCE's cells and the spec state -/
def RRc (σ : nh_S) (S : SP) : Prop := σ.2.1 9 0 = nI (sH S) ∧ σ.2.1 9 1 = nI (sP S) ∧ (∀ p, p < sP S → σ.2.1 6 p = nI (sMi S p) ∧ σ.2.1 7 p = nI (sGa S p) ∧ σ.2.1 8 p = nI (sBe S p)) ∧ (∀ a b, a < sH S → b < sH S → σ.2.1 14 (9 * a + b) = nI (sFar S a b)) ∧ (∀ h, h < sH S → σ.2.1 3 (6 * h) = nI (sWk S h) ∧ σ.2.1 3 (6 * h + 1) = nI (sKy S h) ∧ ∀ q, q < 4 → σ.2.1 3 (6 * h + 2 + q) = nI (sOd S q h))
def RRm (σ : nh_S) (S : SP) : Prop := (∀ p, p < sP S → σ.2.1 1 p = nI (sKp S p) ∧ σ.2.1 1 (12 + p) = nI (sFt S p)) ∧ σ.2.1 1 24 = nI (sAw S) ∧ σ.2.1 1 25 = nI (sSd S)
def RRp (σ : nh_S) (S : SP) : Prop := σ.1 0 11 = nI (sPn S) ∧ ∀ i, i < sPn S → σ.2.1 10 i = nI (sPa S i) ∧ σ.2.1 11 i = nI (sPb S i)
def RRx (σ : nh_S) (S : SP) : Prop := (∀ p, p < sP S → σ.2.1 12 p = nI (sCs S p)) ∧ σ.1 0 14 = nI (sSt S) ∧ σ.1 0 37 = nI (lgm S) ∧ ∀ p, p < sP S → sLg S p ≠ 0 → σ.2.1 26 p = nI (sLg S p - 1)
def RRi (σ : nh_S) (S : SP) : Prop := ∀ i, i < 2 → σ.2.1 2 i = nI (sIm S i) ∧ (sIm S i = 1 → (∀ p, p < sP S → σ.2.1 1 (26 * (i + 1) + p) = nI (sIk S i p) ∧ σ.2.1 1 (26 * (i + 1) + (12 + p)) = nI (sIf S i p)) ∧ σ.2.1 1 (26 * (i + 1) + 24) = nI (sIa S i) ∧ σ.2.1 1 (26 * (i + 1) + 25) = nI (sIs S i))
def RRt (σ : nh_S) (S : SP) : Prop := σ.1 0 16 = nI (sTn S) ∧ (∀ i, i < sTn S → σ.2.1 13 i = nI (sTx S i)) ∧ σ.1 0 21 = ot (if sFa S = 0 then none else some (sFa S - 1))
def RR (σ : nh_S) (S : SP) : Prop := RRc σ S ∧ RRm σ S ∧ RRp σ S ∧ RRx σ S ∧ RRi σ S ∧ RRt σ S
theorem RRc_tr {σ τ : nh_S} {S T : SP} (h : RRc σ S) (h3 : τ.2.1 3 = σ.2.1 3) (h6 : τ.2.1 6 = σ.2.1 6) (h7 : τ.2.1 7 = σ.2.1 7) (h8 : τ.2.1 8 = σ.2.1 8) (h9 : τ.2.1 9 = σ.2.1 9) (h14 : τ.2.1 14 = σ.2.1 14) (ht : ∀ t, t < 9 → T t = S t) : RRc τ T := by
  unfold RRc at h ⊢
  simp only [sH, sP, sMi, sGa, sBe, sFar, sOd, sWk, sKy, sKp, sFt, sAw, sSd, sCs, sSt, sLg, sPn, sPa, sPb, sTn, sTx, sFa, sIm, sIk, sIf, sIa, sIs] at h ⊢
  rw [ht 0 (by decide), ht 1 (by decide), ht 2 (by decide), ht 3 (by decide), ht 4 (by decide), ht 5 (by decide), ht 6 (by decide), ht 7 (by decide), ht 8 (by decide), h3, h6, h7, h8, h9, h14]
  exact h
theorem RRm_tr {σ τ : nh_S} {S T : SP} (h : RRm σ S) (a1 : ∀ i, i < 26 → τ.2.1 1 i = σ.2.1 1 i) (hp : sP S ≤ 12) (h1 : T 1 = S 1) (h9 : T 9 = S 9) (h10 : T 10 = S 10) (h11 : T 11 = S 11) (h12 : T 12 = S 12) : RRm τ T := by
  unfold RRm at h ⊢
  simp only [sH, sP, sMi, sGa, sBe, sFar, sOd, sWk, sKy, sKp, sFt, sAw, sSd, sCs, sSt, sLg, sPn, sPa, sPb, sTn, sTx, sFa, sIm, sIk, sIf, sIa, sIs] at h ⊢
  rw [h1, h9, h10, h11, h12, a1 24 (by decide), a1 25 (by decide)]
  refine ⟨fun p hp2 => ?_, h.2⟩
  have hp3 : p < sP S := hp2
  rw [a1 p (by omega), a1 (12 + p) (by omega)]
  exact h.1 p hp2
theorem RRp_tr {σ τ : nh_S} {S T : SP} (h : RRp σ S) (i11 : τ.1 0 11 = σ.1 0 11) (a10 : τ.2.1 10 = σ.2.1 10) (a11 : τ.2.1 11 = σ.2.1 11) (h16 : T 16 = S 16) (h17 : T 17 = S 17) (h18 : T 18 = S 18) : RRp τ T := by
  unfold RRp at h ⊢
  simp only [sH, sP, sMi, sGa, sBe, sFar, sOd, sWk, sKy, sKp, sFt, sAw, sSd, sCs, sSt, sLg, sPn, sPa, sPb, sTn, sTx, sFa, sIm, sIk, sIf, sIa, sIs] at h ⊢
  rw [h16, h17, h18, i11, a10, a11]
  exact h
theorem RRx_tr {σ τ : nh_S} {S T : SP} (h : RRx σ S) (i14 : τ.1 0 14 = σ.1 0 14) (i37 : τ.1 0 37 = σ.1 0 37) (a12 : τ.2.1 12 = σ.2.1 12) (a26 : τ.2.1 26 = σ.2.1 26) (h1 : T 1 = S 1) (h13 : T 13 = S 13) (h14 : T 14 = S 14) (h15 : T 15 = S 15) : RRx τ T := by
  unfold RRx lgm at h ⊢
  simp only [sH, sP, sMi, sGa, sBe, sFar, sOd, sWk, sKy, sKp, sFt, sAw, sSd, sCs, sSt, sLg, sPn, sPa, sPb, sTn, sTx, sFa, sIm, sIk, sIf, sIa, sIs] at h ⊢
  simp only [h1, h13, h14, h15, i14, i37, a12, a26]
  exact h
theorem RRi_tr {σ τ : nh_S} {S T : SP} (h : RRi σ S) (a2 : ∀ i, i < 2 → τ.2.1 2 i = σ.2.1 2 i) (a1 : ∀ i, 26 ≤ i → τ.2.1 1 i = σ.2.1 1 i) (h1 : T 1 = S 1) (h22 : T 22 = S 22) (h23 : T 23 = S 23) (h24 : T 24 = S 24) (h25 : T 25 = S 25) (h26 : T 26 = S 26) : RRi τ T := by
  unfold RRi at h ⊢
  simp only [sH, sP, sMi, sGa, sBe, sFar, sOd, sWk, sKy, sKp, sFt, sAw, sSd, sCs, sSt, sLg, sPn, sPa, sPb, sTn, sTx, sFa, sIm, sIk, sIf, sIa, sIs] at h ⊢
  rw [h1, h22, h23, h24, h25, h26]
  intro i hi
  obtain ⟨g1, g2⟩ := h i hi
  refine ⟨by rw [a2 i hi]; exact g1, fun q => ?_⟩
  obtain ⟨g3, g4, g5⟩ := g2 q
  refine ⟨fun p hp => ?_, ?_, ?_⟩
  · rw [a1 _ (by omega), a1 _ (by omega)]
    exact g3 p hp
  · rw [a1 _ (by omega)]
    exact g4
  · rw [a1 _ (by omega)]
    exact g5
theorem RRt_tr {σ τ : nh_S} {S T : SP} (h : RRt σ S) (i16 : τ.1 0 16 = σ.1 0 16) (i21 : τ.1 0 21 = σ.1 0 21) (a13 : τ.2.1 13 = σ.2.1 13) (h19 : T 19 = S 19) (h20 : T 20 = S 20) (h21 : T 21 = S 21) : RRt τ T := by
  unfold RRt at h ⊢
  simp only [sH, sP, sMi, sGa, sBe, sFar, sOd, sWk, sKy, sKp, sFt, sAw, sSd, sCs, sSt, sLg, sPn, sPa, sPb, sTn, sTx, sFa, sIm, sIk, sIf, sIa, sIs] at h ⊢
  rw [h19, h20, h21, i16, i21, a13]
  exact h
/-- only scratch has changed -/
def pr (σ τ : nh_S) : Prop := (τ.2.1 1 = σ.2.1 1 ∧ τ.2.1 2 = σ.2.1 2 ∧ τ.2.1 3 = σ.2.1 3 ∧ τ.2.1 6 = σ.2.1 6 ∧ τ.2.1 7 = σ.2.1 7 ∧ τ.2.1 8 = σ.2.1 8 ∧ τ.2.1 9 = σ.2.1 9 ∧ τ.2.1 10 = σ.2.1 10 ∧ τ.2.1 11 = σ.2.1 11 ∧ τ.2.1 12 = σ.2.1 12 ∧ τ.2.1 13 = σ.2.1 13 ∧ τ.2.1 14 = σ.2.1 14 ∧ τ.2.1 26 = σ.2.1 26) ∧ τ.1 0 11 = σ.1 0 11 ∧ τ.1 0 14 = σ.1 0 14 ∧ τ.1 0 16 = σ.1 0 16 ∧ τ.1 0 21 = σ.1 0 21 ∧ τ.1 0 37 = σ.1 0 37
theorem pr.rf (σ : nh_S) : pr σ σ := ⟨⟨rfl, rfl, rfl, rfl, rfl, rfl, rfl, rfl, rfl, rfl, rfl, rfl, rfl⟩, rfl, rfl, rfl, rfl, rfl⟩
theorem pr.tr {σ τ υ : nh_S} (h : pr σ τ) (g : pr τ υ) : pr σ υ := by
  obtain ⟨⟨a1, a2, a3, a4, a5, a6, a7, a8, a9, a10, a11, a12, a13⟩, b1, b2, b3, b4, b5⟩ := h
  obtain ⟨⟨c1, c2, c3, c4, c5, c6, c7, c8, c9, c10, c11, c12, c13⟩, d1, d2, d3, d4, d5⟩ := g
  exact ⟨⟨c1.trans a1, c2.trans a2, c3.trans a3, c4.trans a4, c5.trans a5, c6.trans a6, c7.trans a7, c8.trans a8, c9.trans a9, c10.trans a10, c11.trans a11, c12.trans a12, c13.trans a13⟩, d1.trans b1, d2.trans b2, d3.trans b3, d4.trans b4, d5.trans b5⟩
theorem wa_ne (σ : nh_S) {k : Nat} (i : Nat) (x : Int32) {j : Nat} (h : j ≠ k) : (nh_wa σ k i x).2.1 j = σ.2.1 j := by
  unfold nh_wa nh_sa
  simp [h]
theorem pr.wa (σ : nh_S) {k : Nat} (i : Nat) (x : Int32) (h : k ∉ [1, 2, 3, 6, 7, 8, 9, 10, 11, 12, 13, 14, 26]) : pr σ (nh_wa σ k i x) := by
  have w : ∀ j, j ∈ [1, 2, 3, 6, 7, 8, 9, 10, 11, 12, 13, 14, 26] → (nh_wa σ k i x).2.1 j = σ.2.1 j := fun j hj => wa_ne σ i x (fun e => h (e ▸ hj))
  exact ⟨⟨w 1 (by decide), w 2 (by decide), w 3 (by decide), w 6 (by decide), w 7 (by decide), w 8 (by decide), w 9 (by decide), w 10 (by decide), w 11 (by decide), w 12 (by decide), w 13 (by decide), w 14 (by decide), w 26 (by decide)⟩, rfl, rfl, rfl, rfl, rfl⟩
theorem si_ne (σ : nh_S) (k j : Nat) (x : Int32) {j' : Nat} (h : j' ≠ j) : (nh_si σ k j x).1 k j' = σ.1 k j' := by
  unfold nh_si
  simp [h]
theorem pr.si (σ : nh_S) {j : Nat} (x : Int32) (h : j ∉ [11, 14, 16, 21, 37]) : pr σ (nh_si σ 0 j x) := by
  have w : ∀ i, i ∈ [11, 14, 16, 21, 37] → (nh_si σ 0 j x).1 0 i = σ.1 0 i := fun i hi => si_ne σ 0 j x (fun e => h (e ▸ hi))
  exact ⟨⟨rfl, rfl, rfl, rfl, rfl, rfl, rfl, rfl, rfl, rfl, rfl, rfl, rfl⟩, w 11 (by decide), w 14 (by decide), w 16 (by decide), w 21 (by decide), w 37 (by decide)⟩
theorem RR.pr {σ τ : nh_S} {S : SP} (h : RR σ S) (hp : sP S ≤ 12) (g : pr σ τ) : RR τ S := by
  obtain ⟨h1, h2, h3, h4, h5, h6⟩ := h
  obtain ⟨⟨a1, a2, a3, a4, a5, a6, a7, a8, a9, a10, a11, a12, a13⟩, b1, b2, b3, b4, b5⟩ := g
  exact ⟨RRc_tr h1 a3 a4 a5 a6 a7 a12 (fun _ _ => rfl), RRm_tr h2 (fun i _ => by rw [a1]) hp rfl rfl rfl rfl rfl, RRp_tr h3 b1 a8 a9 rfl rfl rfl, RRx_tr h4 b2 b5 a10 a13 rfl rfl rfl rfl, RRi_tr h5 (fun i _ => by rw [a2]) (fun i _ => by rw [a1]) rfl rfl rfl rfl rfl rfl, RRt_tr h6 b3 b4 a11 rfl rfl rfl⟩
