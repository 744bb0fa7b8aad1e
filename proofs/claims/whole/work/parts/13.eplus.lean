theorem nh_vi {i : Int32} {n : Nat} (h : ¬ (i < 0 ∨ n ≤ i.toNatClampNeg)) : vp_in i n := h
theorem nh_nb (c : Prop) [Decidable c] : narrow .boolean (.int (if c then 1 else 0)) = .int (if c then 1 else 0) := by
  by_cases h : c
  · rw [if_pos h]; rfl
  · rw [if_neg h]; rfl
theorem nh_n01 {x : Int32} (h : x = 0 ∨ x = 1) : narrow .boolean (.int x) = .int x := by
  rcases h with rfl | rfl <;> rfl
theorem nh_ti {x k : Int32} (h : ¬ x = k) : x.toInt ≠ k.toInt := fun e => h (Int32.toInt_inj.mp e)
theorem nh_tk {x k : Int32} {z : Int} (h : ¬ x = k) (hk : k.toInt = z) : x.toInt ≠ z := fun e => nh_ti h (by rw [e, hk])
theorem nh_topi {K : nh_K} {pc : Nat} {ls : List (Option Value)} {st : List Value} {σ : nh_S} {Q : Option Value → nh_S → Prop} {x y : Int32} (e : x = y) (h : nh_E K pc ls (.int x :: st) σ Q) : nh_E K pc ls (.int y :: st) σ Q := e ▸ h
theorem nh_topl {K : nh_K} {pc : Nat} {ls : List (Option Value)} {st : List Value} {σ : nh_S} {Q : Option Value → nh_S → Prop} {x y : Int64} (e : x = y) (h : nh_E K pc ls (.long x :: st) σ Q) : nh_E K pc ls (.long y :: st) σ Q := e ▸ h
/-- an element of an array is written -/
def nh_wa (σ : nh_S) (k i : Nat) (x : Int32) : nh_S := nh_sa σ k (upd (σ.2.1 k) i x)
/-- a piece of an array is copied -/
def nh_cp (σ : nh_S) (k0 k1 sp dp n : Nat) : nh_S := nh_sa σ k1 (va_cpy (σ.2.1 k0) (σ.2.1 k1) sp dp n)
def nh_qi (T : Int32 → nh_S → Prop) : Option Value → nh_S → Prop := fun r τ => ∃ x, r = some (.int x) ∧ T x τ
def nh_ql (T : Int64 → nh_S → Prop) : Option Value → nh_S → Prop := fun r τ => ∃ x, r = some (.long x) ∧ T x τ
def nh_qv (T : nh_S → Prop) : Option Value → nh_S → Prop := fun r τ => r = none ∧ T τ
theorem nh_cmp_lt (x y : Int64) : lg_cmp x y < 0 ↔ x < y := by
  unfold lg_cmp
  by_cases h : y < x
  · simp [h, Int64.lt_asymm h]
  · by_cases h2 : x = y
    · simp [h2]
    · simp [h, h2, Int64.lt_of_le_of_ne (Int64.not_lt.mp h) h2]
theorem nh_cmp_gt (x y : Int64) : 0 < lg_cmp x y ↔ y < x := by
  unfold lg_cmp
  by_cases h : y < x
  · simp [h]
  · by_cases h2 : x = y
    · simp [h2]
    · simp [h, h2]
theorem nh_cmp_le (x y : Int64) : lg_cmp x y ≤ 0 ↔ ¬ y < x := by rw [← nh_cmp_gt, Int32.not_lt]
theorem nh_cmp_ge (x y : Int64) : 0 ≤ lg_cmp x y ↔ ¬ x < y := by rw [← nh_cmp_lt, Int32.not_lt]
theorem nE_ifl_lt {K : nh_K} {pc : Nat} {ls : List (Option Value)} {st : List Value} {σ : nh_S} {Q : Option Value → nh_S → Prop} {x y : Int64} {off : Int} {tgt : Nat} (hd : decode K.2.1 pc = .ok (.ifCond .lt off, 3)) (ht : (pc : Int) + off = (tgt : Int)) (k : (x < y → nh_E K tgt ls st σ Q) ∧ (¬ (x < y) → nh_E K (pc + 3) ls st σ Q)) : nh_E K pc ls (.int (lg_cmp x y) :: st) σ Q := nE_if_lt hd ht ⟨fun h => k.1 ((nh_cmp_lt x y).mp h), fun h => k.2 (fun q => h ((nh_cmp_lt x y).mpr q))⟩
theorem nE_ifl_gt {K : nh_K} {pc : Nat} {ls : List (Option Value)} {st : List Value} {σ : nh_S} {Q : Option Value → nh_S → Prop} {x y : Int64} {off : Int} {tgt : Nat} (hd : decode K.2.1 pc = .ok (.ifCond .gt off, 3)) (ht : (pc : Int) + off = (tgt : Int)) (k : (y < x → nh_E K tgt ls st σ Q) ∧ (¬ (y < x) → nh_E K (pc + 3) ls st σ Q)) : nh_E K pc ls (.int (lg_cmp x y) :: st) σ Q := nE_if_gt hd ht ⟨fun h => k.1 ((nh_cmp_gt x y).mp h), fun h => k.2 (fun q => h ((nh_cmp_gt x y).mpr q))⟩
theorem nE_ifl_le {K : nh_K} {pc : Nat} {ls : List (Option Value)} {st : List Value} {σ : nh_S} {Q : Option Value → nh_S → Prop} {x y : Int64} {off : Int} {tgt : Nat} (hd : decode K.2.1 pc = .ok (.ifCond .le off, 3)) (ht : (pc : Int) + off = (tgt : Int)) (k : (¬ (y < x) → nh_E K tgt ls st σ Q) ∧ (y < x → nh_E K (pc + 3) ls st σ Q)) : nh_E K pc ls (.int (lg_cmp x y) :: st) σ Q := nE_if_le hd ht ⟨fun h => k.1 ((nh_cmp_le x y).mp h), fun h => k.2 (Classical.byContradiction fun q => h ((nh_cmp_le x y).mpr q))⟩
theorem nE_ifl_ge {K : nh_K} {pc : Nat} {ls : List (Option Value)} {st : List Value} {σ : nh_S} {Q : Option Value → nh_S → Prop} {x y : Int64} {off : Int} {tgt : Nat} (hd : decode K.2.1 pc = .ok (.ifCond .ge off, 3)) (ht : (pc : Int) + off = (tgt : Int)) (k : (¬ (x < y) → nh_E K tgt ls st σ Q) ∧ (x < y → nh_E K (pc + 3) ls st σ Q)) : nh_E K pc ls (.int (lg_cmp x y) :: st) σ Q := nE_if_ge hd ht ⟨fun h => k.1 ((nh_cmp_ge x y).mp h), fun h => k.2 (Classical.byContradiction fun q => h ((nh_cmp_ge x y).mpr q))⟩
theorem nE_ifb_eq {K : nh_K} {pc : Nat} {ls : List (Option Value)} {st : List Value} {σ : nh_S} {Q : Option Value → nh_S → Prop} {p0 : Prop} [Decidable p0] {off : Int} {tgt : Nat} (hd : decode K.2.1 pc = .ok (.ifCond .eq off, 3)) (ht : (pc : Int) + off = (tgt : Int)) (k : (¬ p0 → nh_E K tgt ls st σ Q) ∧ (p0 → nh_E K (pc + 3) ls st σ Q)) : nh_E K pc ls (.int (if p0 then 1 else 0) :: st) σ Q := nE_if_eq hd ht ⟨fun h => k.1 (fun q => by rw [if_pos q] at h; exact absurd h (by decide)), fun h => k.2 (Classical.byContradiction fun q => h (if_neg q))⟩
theorem nE_ifb_ne {K : nh_K} {pc : Nat} {ls : List (Option Value)} {st : List Value} {σ : nh_S} {Q : Option Value → nh_S → Prop} {p0 : Prop} [Decidable p0] {off : Int} {tgt : Nat} (hd : decode K.2.1 pc = .ok (.ifCond .ne off, 3)) (ht : (pc : Int) + off = (tgt : Int)) (k : (p0 → nh_E K tgt ls st σ Q) ∧ (¬ p0 → nh_E K (pc + 3) ls st σ Q)) : nh_E K pc ls (.int (if p0 then 1 else 0) :: st) σ Q := nE_if_ne hd ht ⟨fun h => k.1 (Classical.byContradiction fun q => h (if_neg q)), fun h => k.2 (fun q => by rw [if_pos q] at h; exact absurd h (by decide))⟩
theorem nG_iald {K : nh_K} {pc : Nat} {ls : List (Option Value)} {st : List Value} {σ : nh_S} {Q : Option Value → nh_S → Prop} {k n : Nat} {i : Int32} {j : Nat} (hsh : K.2.2.2.2.2[k]? = some (.inl (.int, n, none))) (hj : i.toNatClampNeg = j) (hd : decode K.2.1 pc = .ok (.iaload, 1)) (kk : vp_in i n ∧ nh_E K (pc + 1) ls (.int (σ.2.1 k j) :: st) σ Q) : nh_E K pc ls (.int i :: .ref k :: st) σ Q := by
  subst hj
  exact nE_iald hsh hd kk
theorem nG_cald {K : nh_K} {pc : Nat} {ls : List (Option Value)} {st : List Value} {σ : nh_S} {Q : Option Value → nh_S → Prop} {k n : Nat} {i : Int32} {j : Nat} (hsh : K.2.2.2.2.2[k]? = some (.inl (.char, n, none))) (hj : i.toNatClampNeg = j) (hd : decode K.2.1 pc = .ok (.caload, 1)) (kk : vp_in i n ∧ nh_E K (pc + 1) ls (.int (σ.2.1 k j) :: st) σ Q) : nh_E K pc ls (.int i :: .ref k :: st) σ Q := by
  subst hj
  exact nE_cald hsh hd kk
theorem nG_zald {K : nh_K} {pc : Nat} {ls : List (Option Value)} {st : List Value} {σ : nh_S} {Q : Option Value → nh_S → Prop} {k n : Nat} {i : Int32} {j : Nat} (hsh : K.2.2.2.2.2[k]? = some (.inl (.boolean, n, none))) (hj : i.toNatClampNeg = j) (hd : decode K.2.1 pc = .ok (.baload, 1)) (kk : vp_in i n ∧ nh_E K (pc + 1) ls (.int (σ.2.1 k j) :: st) σ Q) : nh_E K pc ls (.int i :: .ref k :: st) σ Q := by
  subst hj
  exact nE_zald hsh hd kk
theorem nG_iast {K : nh_K} {pc : Nat} {ls : List (Option Value)} {st : List Value} {σ : nh_S} {Q : Option Value → nh_S → Prop} {k n : Nat} {i x : Int32} {j : Nat} (hsh : K.2.2.2.2.2[k]? = some (.inl (.int, n, none))) (hj : i.toNatClampNeg = j) (hd : decode K.2.1 pc = .ok (.iastore, 1)) (kk : vp_in i n ∧ nh_E K (pc + 1) ls st (nh_wa σ k j x) Q) : nh_E K pc ls (.int x :: .int i :: .ref k :: st) σ Q := by
  subst hj
  exact nE_iast hsh hd kk
theorem nG_cast {K : nh_K} {pc : Nat} {ls : List (Option Value)} {st : List Value} {σ : nh_S} {Q : Option Value → nh_S → Prop} {k n : Nat} {i x : Int32} {j : Nat} (hsh : K.2.2.2.2.2[k]? = some (.inl (.char, n, none))) (hj : i.toNatClampNeg = j) (hd : decode K.2.1 pc = .ok (.castore, 1)) (kk : vp_in i n ∧ nh_E K (pc + 1) ls st (nh_wa σ k j (vp_nar .char x)) Q) : nh_E K pc ls (.int x :: .int i :: .ref k :: st) σ Q := by
  subst hj
  exact nE_cast hsh hd kk
theorem nG_zast {K : nh_K} {pc : Nat} {ls : List (Option Value)} {st : List Value} {σ : nh_S} {Q : Option Value → nh_S → Prop} {k n : Nat} {i x : Int32} {j : Nat} (hsh : K.2.2.2.2.2[k]? = some (.inl (.boolean, n, none))) (hj : i.toNatClampNeg = j) (hd : decode K.2.1 pc = .ok (.bastore, 1)) (kk : vp_in i n ∧ nh_E K (pc + 1) ls st (nh_wa σ k j (vp_nar .boolean x)) Q) : nh_E K pc ls (.int x :: .int i :: .ref k :: st) σ Q := by
  subst hj
  exact nE_zast hsh hd kk
theorem nG_aald {K : nh_K} {pc : Nat} {ls : List (Option Value)} {st : List Value} {σ : nh_S} {Q : Option Value → nh_S → Prop} {k n b : Nat} {i : Int32} {j : Nat} (hsh : K.2.2.2.2.2[k]? = some (.inl (.array .int, n, some b))) (hj : i.toNatClampNeg = j) (hd : decode K.2.1 pc = .ok (.aaload, 1)) (kk : vp_in i n ∧ nh_E K (pc + 1) ls (.ref (b + j) :: st) σ Q) : nh_E K pc ls (.int i :: .ref k :: st) σ Q := by
  subst hj
  exact nE_aald hsh hd kk
def isP (o : Nat) : Prop := o = 33 ∨ o = 55
theorem isP_33 : isP 33 := by unfold isP; omega
theorem isP_55 : isP 55 := by unfold isP; omega
theorem sP_0 {o : Nat} (h : isP o) : shC[o]? = some (.inr (3, [none, none, some (some (o + 1)), some (some (o + 2)), some (some (o + 3)), some (some (o + 8)), some (some (o + 18)), some (some (o + 19)), some (some (o + 20)), some (some (o + 21))])) := by rcases h with rfl | rfl <;> rfl
theorem sP_1 {o : Nat} (h : isP o) : shC[o + 1]? = some (.inl (.int, 9, none)) := by rcases h with rfl | rfl <;> rfl
theorem sP_2 {o : Nat} (h : isP o) : shC[o + 2]? = some (.inl (.int, 9, none)) := by rcases h with rfl | rfl <;> rfl
theorem sP_3 {o : Nat} (h : isP o) : shC[o + 3]? = some (.inl (.array .int, 4, some (o + 4))) := by rcases h with rfl | rfl <;> rfl
theorem sP_4 {o : Nat} (h : isP o) : shC[o + 4]? = some (.inl (.int, 9, none)) := by rcases h with rfl | rfl <;> rfl
theorem sP_5 {o : Nat} (h : isP o) : shC[o + 5]? = some (.inl (.int, 9, none)) := by rcases h with rfl | rfl <;> rfl
theorem sP_6 {o : Nat} (h : isP o) : shC[o + 6]? = some (.inl (.int, 9, none)) := by rcases h with rfl | rfl <;> rfl
theorem sP_7 {o : Nat} (h : isP o) : shC[o + 7]? = some (.inl (.int, 9, none)) := by rcases h with rfl | rfl <;> rfl
theorem sP_8 {o : Nat} (h : isP o) : shC[o + 8]? = some (.inl (.array .int, 9, some (o + 9))) := by rcases h with rfl | rfl <;> rfl
theorem sP_9 {o : Nat} (h : isP o) : shC[o + 9]? = some (.inl (.int, 9, none)) := by rcases h with rfl | rfl <;> rfl
theorem sP_10 {o : Nat} (h : isP o) : shC[o + 10]? = some (.inl (.int, 9, none)) := by rcases h with rfl | rfl <;> rfl
theorem sP_11 {o : Nat} (h : isP o) : shC[o + 11]? = some (.inl (.int, 9, none)) := by rcases h with rfl | rfl <;> rfl
theorem sP_12 {o : Nat} (h : isP o) : shC[o + 12]? = some (.inl (.int, 9, none)) := by rcases h with rfl | rfl <;> rfl
theorem sP_13 {o : Nat} (h : isP o) : shC[o + 13]? = some (.inl (.int, 9, none)) := by rcases h with rfl | rfl <;> rfl
theorem sP_14 {o : Nat} (h : isP o) : shC[o + 14]? = some (.inl (.int, 9, none)) := by rcases h with rfl | rfl <;> rfl
theorem sP_15 {o : Nat} (h : isP o) : shC[o + 15]? = some (.inl (.int, 9, none)) := by rcases h with rfl | rfl <;> rfl
theorem sP_16 {o : Nat} (h : isP o) : shC[o + 16]? = some (.inl (.int, 9, none)) := by rcases h with rfl | rfl <;> rfl
theorem sP_17 {o : Nat} (h : isP o) : shC[o + 17]? = some (.inl (.int, 9, none)) := by rcases h with rfl | rfl <;> rfl
theorem sP_18 {o : Nat} (h : isP o) : shC[o + 18]? = some (.inl (.int, 12, none)) := by rcases h with rfl | rfl <;> rfl
theorem sP_19 {o : Nat} (h : isP o) : shC[o + 19]? = some (.inl (.int, 12, none)) := by rcases h with rfl | rfl <;> rfl
theorem sP_20 {o : Nat} (h : isP o) : shC[o + 20]? = some (.inl (.int, 12, none)) := by rcases h with rfl | rfl <;> rfl
theorem sP_21 {o : Nat} (h : isP o) : shC[o + 21]? = some (.inl (.int, 12, none)) := by rcases h with rfl | rfl <;> rfl
def isN (o : Nat) : Prop := o = 3 ∨ o = 6 ∨ o = 9
theorem isN_3 : isN 3 := by unfold isN; omega
theorem isN_6 : isN 6 := by unfold isN; omega
theorem isN_9 : isN 9 := by unfold isN; omega
theorem sN_0 {o : Nat} (h : isN o) : shC[o]? = some (.inr (2, [some (some (o + 1)), some (some (o + 2)), none, none, none])) := by rcases h with rfl | rfl | rfl <;> rfl
theorem sN_1 {o : Nat} (h : isN o) : shC[o + 1]? = some (.inl (.int, 12, none)) := by rcases h with rfl | rfl | rfl <;> rfl
theorem sN_2 {o : Nat} (h : isN o) : shC[o + 2]? = some (.inl (.int, 12, none)) := by rcases h with rfl | rfl | rfl <;> rfl
def isL (o : Nat) : Prop := o = 27 ∨ o = 77 ∨ o = 80
theorem isL_27 : isL 27 := by unfold isL; omega
theorem isL_77 : isL 77 := by unfold isL; omega
theorem isL_80 : isL 80 := by unfold isL; omega
theorem sL_0 {o : Nat} (h : isL o) : shC[o]? = some (.inr (4, [none, some (some (o + 1)), some (some (o + 2))])) := by rcases h with rfl | rfl | rfl <;> rfl
theorem sL_1 {o : Nat} (h : isL o) : shC[o + 1]? = some (.inl (.int, 20, none)) := by rcases h with rfl | rfl | rfl <;> rfl
theorem sL_2 {o : Nat} (h : isL o) : shC[o + 2]? = some (.inl (.int, 20, none)) := by rcases h with rfl | rfl | rfl <;> rfl
def isG (o : Nat) : Prop := o = 17 ∨ o = 21 ∨ o = 98
theorem isG_17 : isG 17 := by unfold isG; omega
theorem isG_21 : isG 21 := by unfold isG; omega
theorem isG_98 : isG 98 := by unfold isG; omega
theorem sG_0 {o : Nat} (h : isG o) : shC[o]? = some (.inr (5, [some (some (o + 1)), some (some (o + 2)), none, none, some (some (o + 3))])) := by rcases h with rfl | rfl | rfl <;> rfl
theorem sG_1 {o : Nat} (h : isG o) : shC[o + 1]? = some (.inl (.int, 12, none)) := by rcases h with rfl | rfl | rfl <;> rfl
theorem sG_2 {o : Nat} (h : isG o) : shC[o + 2]? = some (.inl (.int, 12, none)) := by rcases h with rfl | rfl | rfl <;> rfl
theorem sG_3 {o : Nat} (h : isG o) : shC[o + 3]? = some (.inl (.int, 12, none)) := by rcases h with rfl | rfl | rfl <;> rfl
theorem sP_r3 {o : Nat} (h : isP o) {i : Int32} (hi : vp_in i 4) : shC[o + 4 + i.toNatClampNeg]? = some (.inl (.int, 9, none)) := by
  have hlt : i.toNatClampNeg < 4 := Nat.not_le.mp fun q => hi (Or.inr q)
  generalize i.toNatClampNeg = j at hlt
  rcases h with rfl | rfl <;> (rcases (show j = 0 ∨ j = 1 ∨ j = 2 ∨ j = 3 by omega) with rfl | rfl | rfl | rfl) <;> rfl
theorem sP_r8 {o : Nat} (h : isP o) {i : Int32} (hi : vp_in i 9) : shC[o + 9 + i.toNatClampNeg]? = some (.inl (.int, 9, none)) := by
  have hlt : i.toNatClampNeg < 9 := Nat.not_le.mp fun q => hi (Or.inr q)
  generalize i.toNatClampNeg = j at hlt
  rcases h with rfl | rfl <;> (rcases (show j = 0 ∨ j = 1 ∨ j = 2 ∨ j = 3 ∨ j = 4 ∨ j = 5 ∨ j = 6 ∨ j = 7 ∨ j = 8 by omega) with rfl | rfl | rfl | rfl | rfl | rfl | rfl | rfl | rfl) <;> rfl
theorem sM_r {i : Int32} (hi : vp_in i 9) : shC[88 + i.toNatClampNeg]? = some (.inl (.int, 9, none)) := by
  have hlt : i.toNatClampNeg < 9 := Nat.not_le.mp fun q => hi (Or.inr q)
  generalize i.toNatClampNeg = j at hlt
  rcases (show j = 0 ∨ j = 1 ∨ j = 2 ∨ j = 3 ∨ j = 4 ∨ j = 5 ∨ j = 6 ∨ j = 7 ∨ j = 8 by omega) with rfl | rfl | rfl | rfl | rfl | rfl | rfl | rfl | rfl <;> rfl
