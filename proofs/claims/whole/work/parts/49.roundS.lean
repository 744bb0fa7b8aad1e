/-! ROUNDS: the next one, on the spec's side -/
def dsc (r : Nat → Nat) : Nat → Nat
  | 0 => 0
  | m + 1 => if r (m + 1) < r m then dsc r m else m + 1
def fnd (r : Nat → Nat) (i : Nat) : Nat → Nat
  | 0 => 0
  | m + 1 => if r m < r i then fnd r i m else m
def sw (r : Nat → Nat) (i k : Nat) : Nat → Nat := fun x => if x = i then r k else if x = k then r i else r x
def rvs (r : Nat → Nat) (i n : Nat) : Nat → Nat := fun x => if i < x ∧ x < n then r (i + n - x) else r x
def nx (n : Nat) (r : Nat → Nat) : Option (Nat → Nat) := match dsc r (n - 1) with
  | 0 => none
  | i + 1 => some (rvs (sw r i (fnd r i n)) i n)
theorem dsc_le (r : Nat → Nat) : ∀ m, dsc r m ≤ m
  | 0 => Nat.le_refl 0
  | m + 1 => by
    rw [dsc]
    split
    · exact Nat.le_succ_of_le (dsc_le r m)
    · exact Nat.le_refl _
theorem dsc_up {r : Nat → Nat} {i : Nat} : ∀ {m : Nat}, dsc r m = i + 1 → ¬ r (i + 1) < r i
  | 0, h => by simp [dsc] at h
  | m + 1, h => by
    rw [dsc] at h
    by_cases c : r (m + 1) < r m
    · rw [if_pos c] at h
      exact dsc_up h
    · rw [if_neg c] at h
      have e : m = i := by omega
      subst e
      exact c
theorem fnd_lt (r : Nat → Nat) (i : Nat) : ∀ {m : Nat}, 0 < m → fnd r i m < m
  | 0, h => absurd h (by omega)
  | m + 1, _ => by
    rw [fnd]
    split
    · rename_i q
      by_cases hm : 0 < m
      · exact Nat.lt_succ_of_lt (fnd_lt r i hm)
      · have e : m = 0 := by omega
        subst e
        simp [fnd]
    · exact Nat.lt_succ_self m
theorem fnd_gt {r : Nat → Nat} {i : Nat} (h : ¬ r (i + 1) < r i) : ∀ {m : Nat}, i + 1 < m → i < fnd r i m
  | 0, h => absurd h (by omega)
  | m + 1, hm => by
    rw [fnd]
    split
    · rename_i q
      rcases (show m = i + 1 ∨ i + 1 < m by omega) with e | e
      · subst e; exact absurd q h
      · exact fnd_gt h e
    · omega
/-- the next one is the same with places changed -/
theorem nx_perm {n : Nat} {r r' : Nat → Nat} (h : nx n r = some r') : ∃ π : Nat → Nat, (∀ x, x < n → π x < n ∧ r' x = r (π x)) ∧ ∀ x y, x < n → y < n → π x = π y → x = y := by
  unfold nx at h
  have hle := dsc_le r (n - 1)
  cases hd : dsc r (n - 1) with
  | zero => rw [hd] at h; cases h
  | succ i =>
    rw [hd] at h hle
    have hup := dsc_up hd
    injection h with h
    have hi : i + 1 < n := by omega
    have k1 := fnd_lt r i (m := n) (by omega)
    have k2 := fnd_gt hup hi
    generalize fnd r i n = k at h k1 k2
    refine ⟨fun x => (fun y => if y = i then k else if y = k then i else y) (if i < x ∧ x < n then i + n - x else x), fun x hx => ?_, fun x y hx hy e => ?_⟩
    · rw [← h]
      dsimp only
      unfold rvs sw
      by_cases c : i < x ∧ x < n
      · rw [if_pos c, if_pos c]
        by_cases c1 : i + n - x = i
        · rw [if_pos c1, if_pos c1]; exact ⟨k1, rfl⟩
        · rw [if_neg c1, if_neg c1]
          by_cases c2 : i + n - x = k
          · rw [if_pos c2, if_pos c2]; exact ⟨by omega, rfl⟩
          · rw [if_neg c2, if_neg c2]; exact ⟨by omega, rfl⟩
      · rw [if_neg c, if_neg c]
        by_cases c1 : x = i
        · rw [if_pos c1, if_pos c1]; exact ⟨k1, rfl⟩
        · rw [if_neg c1, if_neg c1]
          by_cases c2 : x = k
          · rw [if_pos c2, if_pos c2]; exact ⟨by omega, rfl⟩
          · rw [if_neg c2, if_neg c2]; exact ⟨by omega, rfl⟩
    · dsimp only at e
      have inj : ∀ a b : Nat, (if a = i then k else if a = k then i else a) = (if b = i then k else if b = k then i else b) → a = b := by
        intro a b h2
        split at h2 <;> split at h2 <;> (try split at h2) <;> (try split at h2) <;> omega
      have e2 := inj _ _ e
      split at e2 <;> split at e2 <;> omega
/-- names of the HOUSES don't matter -/
theorem dsc_map {n : Nat} {r d c : Nat → Nat} (hr : ∀ x, x < n → r x = c (d x) ∧ d x < n) (hc : ∀ a b, a < n → b < n → (c a < c b ↔ a < b)) : ∀ {m : Nat}, m < n → dsc r m = dsc d m
  | 0, _ => rfl
  | m + 1, h => by
    have h1 := hr m (by omega)
    have h2 := hr (m + 1) h
    rw [dsc, dsc, dsc_map hr hc (by omega), h1.1, h2.1]
    by_cases e : d (m + 1) < d m
    · rw [if_pos e, if_pos ((hc _ _ h2.2 h1.2).mpr e)]
    · rw [if_neg e, if_neg (fun q => e ((hc _ _ h2.2 h1.2).mp q))]
theorem fnd_map {n i : Nat} {r d c : Nat → Nat} (hr : ∀ x, x < n → r x = c (d x) ∧ d x < n) (hc : ∀ a b, a < n → b < n → (c a < c b ↔ a < b)) (hi : i < n) : ∀ {m : Nat}, m ≤ n → fnd r i m = fnd d i m
  | 0, _ => rfl
  | m + 1, h => by
    have h1 := hr m (by omega)
    have h2 := hr i hi
    rw [fnd, fnd, fnd_map hr hc hi (by omega), h1.1, h2.1]
    by_cases e : d m < d i
    · rw [if_pos e, if_pos ((hc _ _ h1.2 h2.2).mpr e)]
    · rw [if_neg e, if_neg (fun q => e ((hc _ _ h1.2 h2.2).mp q))]
theorem nx_map {n : Nat} {r d c : Nat → Nat} (hr : ∀ x, x < n → r x = c (d x) ∧ d x < n) (hc : ∀ a b, a < n → b < n → (c a < c b ↔ a < b)) :
    (nx n d = none → nx n r = none) ∧ ∀ d', nx n d = some d' → ∃ r', nx n r = some r' ∧ ∀ x, x < n → r' x = c (d' x) ∧ d' x < n := by
  by_cases h0 : n = 0
  · subst h0
    exact ⟨fun _ => rfl, fun d' h => by simp [nx, dsc] at h⟩
  · have e1 := dsc_map hr hc (m := n - 1) (by omega)
    constructor
    · intro h
      unfold nx at h ⊢
      rw [e1]
      cases hd : dsc d (n - 1) with
      | zero => rfl
      | succ i => rw [hd] at h; cases h
    · intro d' h
      have hp := nx_perm h
      unfold nx at h ⊢
      have hle := dsc_le d (n - 1)
      rw [e1]
      cases hd : dsc d (n - 1) with
      | zero => rw [hd] at h; cases h
      | succ i =>
        rw [hd] at h hle
        have hi : i + 1 < n := by omega
        have e2 := fnd_map hr hc (i := i) (by omega) (m := n) (Nat.le_refl n)
        have k1 := fnd_lt d i (m := n) (by omega)
        refine ⟨_, rfl, fun x hx => ?_⟩
        have hlt : d' x < n := by
          obtain ⟨π, p1, -⟩ := hp
          rw [(p1 x hx).2]
          exact (hr _ (p1 x hx).1).2
        refine ⟨?_, hlt⟩
        injection h with h
        rw [← h, e2]
        unfold rvs sw
        by_cases c : i < x ∧ x < n
        · rw [if_pos c, if_pos c]
          by_cases c1 : i + n - x = i
          · rw [if_pos c1, if_pos c1]; exact (hr _ k1).1
          · rw [if_neg c1, if_neg c1]
            by_cases c2 : i + n - x = fnd d i n
            · rw [if_pos c2, if_pos c2]; exact (hr _ (by omega)).1
            · rw [if_neg c2, if_neg c2]; exact (hr _ (by omega)).1
        · rw [if_neg c, if_neg c]
          by_cases c1 : x = i
          · rw [if_pos c1, if_pos c1]; exact (hr _ k1).1
          · rw [if_neg c1, if_neg c1]
            by_cases c2 : x = fnd d i n
            · rw [if_pos c2, if_pos c2]; exact (hr _ (by omega)).1
            · rw [if_neg c2, if_neg c2]; exact (hr _ (by omega)).1
/-- rounds as numbers -/
def dg (m x : Nat) : Nat := m / 8 ^ x % 8
def en (d : Nat → Nat) : Nat → Nat
  | 0 => 0
  | n + 1 => en d n + d n * 8 ^ n
theorem en_lt {d : Nat → Nat} : ∀ {n : Nat}, (∀ x, x < n → d x < 8) → en d n < 8 ^ n
  | 0, _ => by simp [en]
  | n + 1, h => by
    have ih := en_lt (d := d) (n := n) (fun x hx => h x (by omega))
    have h1 : d n * 8 ^ n ≤ 7 * 8 ^ n := Nat.mul_le_mul_right _ (by have := h n (by omega); omega)
    rw [en, Nat.pow_succ]
    omega
theorem dg_en {d : Nat → Nat} : ∀ {n : Nat}, (∀ x, x < n → d x < 8) → ∀ x, x < n → dg (en d n) x = d x
  | 0, _, x, hx => absurd hx (by omega)
  | n + 1, h, x, hx => by
    have hl := en_lt (d := d) (n := n) (fun x hx => h x (by omega))
    have hd := h n (by omega)
    unfold dg
    rw [en]
    rcases (show x < n ∨ x = n by omega) with q | rfl
    · have e : d n * 8 ^ n = (d n * 8 ^ (n - x - 1) * 8) * 8 ^ x := by
        rw [Nat.mul_assoc, Nat.mul_assoc]
        congr 1
        rw [← Nat.pow_succ', ← Nat.pow_add]
        congr 1
        omega
      rw [e, Nat.add_mul_div_right _ _ (Nat.pow_pos (by omega)), Nat.add_mul_mod_self_right]
      exact dg_en (fun x hx => h x (by omega)) x q
    · rw [Nat.add_mul_div_right _ _ (Nat.pow_pos (by omega)), Nat.div_eq_of_lt hl, Nat.zero_add]
      exact Nat.mod_eq_of_lt hd
def nst (n m : Nat) : Nat := match nx n (dg m) with
  | none => 0
  | some r => en r n + 1
/-- the rounds end -/
def rn (n : Nat) : Nat → Nat → Bool
  | 0, _ => false
  | f + 1, m => match nst n m with
    | 0 => true
    | k + 1 => rn n f k
set_option maxRecDepth 100000 in
theorem rn_all : ∀ n, n < 8 → rn n 5040 (en (fun x => x) n) = true := by decide +kernel
