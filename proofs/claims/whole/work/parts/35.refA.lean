/-! THE REFERENCE, simple methods; answers (a..) and next states (n..) of the spec -/
theorem lit_nI (n : Nat) : (OfNat.ofNat n : Int32) = nI n := rfl
theorem ot_some (n : Nat) : ot (some n) = nI n := rfl
/-- the number of the set bits below 12 -/
def pop (m : Nat) : Nat := fb_ct (fun i => m.testBit i) 12
theorem r_ones {m : Nat} (hm : m < 2 ^ 31) {σ : nh_S} {Q : Option Value → nh_S → Prop} (hQ : Q (some (.int (nI (pop m)))) σ) : nh_E kX9_ones 0 [some (.int (nI m)), none, none] [] σ Q := by
  refine sg_X9_ones_0 _ ?_
  refine nh_loop (α := Unit) (fun i _ => nh_E kX9_ones 4 [some (.int (nI m)), some (.int (nI (fb_ct (fun i => m.testBit i) i))), some (.int (nI i))] [] σ Q) (fun _ _ => True) 12 ?_ ?_ 12 0 () rfl trivial
  · intro _ _
    exact sg_X9_ones_4 _ _ _ (pk_le 12 12 (fun _ => hQ) (fun c => by omega))
  · intro i _ hi _ ih
    refine sg_X9_ones_4 _ _ _ (pk_le 12 i (fun c => by omega) (fun c => ?_))
    have h := ih () trivial
    have hb := bs_bit hm (show i < 31 by omega)
    rw [hb, nI_add, nI_1]
    have e : fb_ct (fun i => m.testBit i) (i + 1) = fb_ct (fun i => m.testBit i) i + m / 2 ^ i % 2 := by
      rw [fb_ct_succ, Nat.testBit_eq_decide_div_mod_eq]
      rcases (show m / 2 ^ i % 2 = 0 ∨ m / 2 ^ i % 2 = 1 by omega) with q | q <;> simp [q]
    rw [e] at h
    exact h
theorem r_partsAt {S : SP} {σ : nh_S} (hR : RR σ S) (hW : WF S) {h : Nat} (hh : h < 2 ^ 31) {Q : Option Value → nh_S → Prop} (hQ : Q (some (.int (nI (mk (fun p => sKp S p == h) (sP S))))) σ) : nh_E kX9_partsAt 0 [some (.ref 0), some (.int (nI h)), none, none] [] σ Q := by
  refine sg_X9_partsAt_0 _ ?_
  have hP := hR.1.2.1
  have h12 := hW.1.2.1
  have h9 := hW.1.1
  refine nh_loop (α := Unit) (fun i _ => nh_E kX9_partsAt 4 [some (.ref 0), some (.int (nI h)), some (.int (nI (mk (fun p => sKp S p == h) i))), some (.int (nI i))] [] σ Q) (fun _ _ => True) (sP S) ?_ ?_ (sP S) 0 () (by omega) trivial
  · intro _ _
    exact sg_X9_partsAt_4 _ _ _ (pk_le (sP S) (sP S) (fun _ => hQ) (fun c => by omega) hP rfl)
  · intro i _ hi _ ih
    refine sg_X9_partsAt_4 _ _ _ (pk_le (sP S) i (fun c => by omega) (fun c => ?_) hP rfl)
    refine ⟨pk_in i 78 (by omega), ?_⟩
    rw [pk_cl i rfl (by omega), (hR.2.1.1 i hi).1, bs_mk (fun p => sKp S p == h) (by omega) (by rw [nI_eq (by have := (hW.2.1.1 i hi).1; omega) hh]; simp), nI_1]
    exact ih () trivial
def aTold (S : SP) (x : Int32) : Int32 := if x = 0 then nI (sH S) else if x = 1 then nI (sP S) else if x = 2 then nI (sPn S) else if x = 3 then nI (sTn S) else if x = 4 then nI (sAw S) else if x = 5 then nI (sSt S) else if x = 6 then nI (pop (lgm S)) else -1000002
theorem lgm_lt {S : SP} (hW : WF S) : lgm S < 4096 := Nat.lt_of_lt_of_le (mk_lt _ _) (Nat.pow_le_pow_right (by omega) hW.1.2.1)
theorem r_told {S : SP} {σ : nh_S} (hR : RR σ S) (hW : WF S) (x : Int32) {Q : Option Value → nh_S → Prop} (hQ : Q (some (.int (aTold S x))) σ) : nh_E kX9_told 0 [some (.ref 0), some (.int x)] [] σ Q := by
  unfold aTold at hQ
  have hl := lgm_lt hW
  refine sg_X9_told_0 x ⟨?_, ?_, ?_, ?_, ?_, ?_, ?_, ?_⟩
  · rintro rfl; rw [hR.1.1]; exact hQ
  · rintro rfl; rw [hR.1.2.1]; exact hQ
  · rintro rfl; rw [hR.2.2.1.1]; exact hQ
  · rintro rfl; rw [hR.2.2.2.2.2.1]; exact hQ
  · rintro rfl; rw [hR.2.1.2.1]; exact hQ
  · rintro rfl; rw [hR.2.2.2.1.2.1]; exact hQ
  · rintro rfl
    rw [hR.2.2.2.1.2.2.1]
    exact r_ones (by omega) ⟨_, rfl, hQ⟩
  · rintro ⟨h0, h1, h2, h3, h4, h5, h6⟩
    rw [if_neg h0, if_neg h1, if_neg h2, if_neg h3, if_neg h4, if_neg h5, if_neg h6] at hQ
    exact hQ
theorem r_fault {S : SP} {σ : nh_S} (hR : RR σ S) {Q : Option Value → nh_S → Prop} (hQ : Q (some (.int (ot (if sFa S = 0 then none else some (sFa S - 1))))) σ) : nh_E kX9_fault 0 [some (.ref 0)] [] σ Q := by
  refine sg_X9_fault_0 ?_
  rw [hR.2.2.2.2.2.2.2]
  exact hQ
def aHouse (S : SP) (x y : Int32) : Int32 := match ix x (sH S) with
  | none => -1000001
  | some h => match ix y 7 with
    | none => -1000002
    | some w => if w = 0 then nI (sWk S h) else if w = 1 then nI (sKy S h) else if w = 6 then nI (mk (fun p => sKp S p == h) (sP S)) else nI (sOd S (w - 2) h)
theorem r_house {S : SP} {σ : nh_S} (hR : RR σ S) (hW : WF S) (x y : Int32) {Q : Option Value → nh_S → Prop} (hQ : Q (some (.int (aHouse S x y))) σ) : nh_E kX9_house 0 [some (.ref 0), some (.int x), some (.int y)] [] σ Q := by
  have h9 := hW.1.1
  unfold aHouse at hQ
  refine sg_X9_house_0 x y ?_
  rw [hR.1.1, ix_ref (by omega)]
  rcases ix_cases x (n := sH S) (by omega) with ⟨h, hh, rfl, e⟩ | ⟨e, hx⟩
  · rw [e] at hQ
    refine ⟨fun _ => ⟨fun c => ⟨fun c6 => ?_, fun c6 => ?_⟩, fun c => ?_⟩, fun c => absurd ⟨h, hh, rfl⟩ c⟩
    · have e2 : ix y 7 = none := by
        rcases ix_cases y (n := 7) (by omega) with ⟨w, hw, rfl, -⟩ | ⟨e2, -⟩
        · exfalso
          rw [show (5 : Int32) = nI 5 from rfl, ix_lit (by omega)] at c
          have hw6 : w ≠ 6 := fun q => c6 (by rw [q]; rfl)
          exact c ⟨w, by omega, rfl⟩
        · exact e2
      rw [e2] at hQ
      exact hQ
    · subst c6
      refine r_partsAt hR hW (by omega) ⟨_, rfl, ?_⟩
      exact hQ
    · rw [show (5 : Int32) = nI 5 from rfl, ix_lit (by omega)] at c
      obtain ⟨w, hw, rfl⟩ := c
      rw [show (6 : Int32) = nI 6 from rfl, pk_mul, nI_add]
      refine ⟨pk_in (6 * h + w) 108 (by omega), ?_⟩
      rw [ix_nI (by omega) (by omega)] at hQ
      rw [pk_cl (6 * h + w) rfl (by omega)]
      obtain ⟨g1, g2, g3⟩ := hR.1.2.2.2.2 h hh
      dsimp only at hQ
      rcases (show w = 0 ∨ w = 1 ∨ 2 ≤ w by omega) with rfl | rfl | h2
      · rw [Nat.add_zero, g1]; exact hQ
      · rw [g2]; exact hQ
      · rw [if_neg (by omega), if_neg (by omega), if_neg (by omega)] at hQ
        have g4 := g3 (w - 2) (by omega)
        rw [show 6 * h + 2 + (w - 2) = 6 * h + w by omega] at g4
        rw [g4]
        exact hQ
  · rw [e] at hQ
    exact ⟨fun ⟨h, hh, q⟩ => absurd q (hx h hh), fun _ => hQ⟩
def aFar (S : SP) (x y : Int32) : Int32 := match ix x (sH S), ix y (sH S) with
  | some a, some b => nI (sFar S a b)
  | _, _ => -1000001
theorem r_far {S : SP} {σ : nh_S} (hR : RR σ S) (hW : WF S) (x y : Int32) {Q : Option Value → nh_S → Prop} (hQ : Q (some (.int (aFar S x y))) σ) : nh_E kX9_far 0 [some (.ref 0), some (.int x), some (.int y)] [] σ Q := by
  have h9 := hW.1.1
  unfold aFar at hQ
  refine sg_X9_far_0 x y ?_
  simp only [hR.1.1, ix_ref (show sH S < 2 ^ 30 by omega)]
  rcases ix_cases x (n := sH S) (by omega) with ⟨a, ha, rfl, e⟩ | ⟨e, hx⟩
  · rcases ix_cases y (n := sH S) (by omega) with ⟨b, hb, rfl, e2⟩ | ⟨e2, hy⟩
    · rw [e, e2] at hQ
      have e3 : (9 : Int32) * nI a + nI b = nI (9 * a + b) := by rw [show (9 : Int32) = nI 9 from rfl, pk_mul, nI_add]
      refine ⟨fun _ _ => by rw [e3]; exact pk_in (9 * a + b) 81 (by omega), ?_⟩
      rw [if_pos ⟨a, ha, rfl⟩, if_pos ⟨b, hb, rfl⟩, e3, pk_cl (9 * a + b) rfl (by omega), hR.1.2.2.2.1 a b ha hb]
      exact hQ
    · rw [e, e2] at hQ
      refine ⟨fun _ ⟨b, hb, q⟩ => absurd q (hy b hb), ?_⟩
      rw [if_pos ⟨a, ha, rfl⟩, if_neg (fun ⟨b, hb, q⟩ => hy b hb q)]
      exact hQ
  · rw [e] at hQ
    refine ⟨fun ⟨a, ha, q⟩ => absurd q (hx a ha), ?_⟩
    rw [if_neg (fun ⟨a, ha, q⟩ => hx a ha q)]
    exact hQ
