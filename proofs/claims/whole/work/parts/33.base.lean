/-! BASE: masks as natural numbers, places, loops -/
theorem bs_sm : ∀ k, k < 32 → ((nI k &&& 31).toBitVec.smod 32).toNat = k := by decide +kernel
theorem bs_bit {m k : Nat} (hm : m < 2 ^ 31) (hk : k < 31) : (nI m >>> (nI k &&& 31)) &&& 1 = nI (m / 2 ^ k % 2) := by
  rw [pk_shrN hm _ k (bs_sm k (by omega)), pk_andN (Nat.lt_of_le_of_lt (Nat.div_le_self _ _) (by omega)) 1 (by decide)]
theorem bs_hs {m k : Nat} (hm : m < 2 ^ 31) (hk : k < 31) : nh_hs (nI m) (nI k) ↔ m.testBit k = true := by
  unfold nh_hs
  rw [bs_bit hm hk, Nat.testBit_eq_decide_div_mod_eq]
  show nI (m / 2 ^ k % 2) = nI 1 ↔ _
  rw [nI_eq (by omega) (by omega)]
  simp
theorem bs_shl {k : Nat} (hk : k < 31) : (1 : Int32) <<< (nI k &&& 31) = nI (2 ^ k) := by
  have h := pk_shlN (n := 1) (nI k &&& 31) k (bs_sm k (by omega)) (by rw [Nat.one_mul]; exact Nat.pow_lt_pow_right (by omega) (by omega))
  rw [Nat.one_mul] at h
  exact h
theorem bs_full {k : Nat} (hk : k < 31) : (1 : Int32) <<< (nI k &&& 31) - 1 = nI (2 ^ k - 1) := by
  have h : 2 ^ k = (2 ^ k - 1) + 1 := by have := Nat.two_pow_pos k; omega
  rw [bs_shl hk]
  conv => lhs; rw [h]
  exact nI_pred _
/-- the mask of those k below n with f k -/
def mk (f : Nat → Bool) : Nat → Nat
  | 0 => 0
  | n + 1 => mk f n + (if f n then 2 ^ n else 0)
theorem mk_lt (f : Nat → Bool) : ∀ n, mk f n < 2 ^ n
  | 0 => by simp [mk]
  | n + 1 => by
    have ih := mk_lt f n
    rw [mk, Nat.pow_succ]
    split <;> omega
theorem mk_bit (f : Nat → Bool) : ∀ n i, (mk f n).testBit i = (decide (i < n) && f i)
  | 0, i => by simp [mk]
  | n + 1, i => by
    have ih := mk_bit f n i
    have hlt := mk_lt f n
    rw [mk]
    by_cases hf : f n = true
    · rw [if_pos hf, Nat.add_comm]
      rcases Nat.lt_trichotomy i n with h | h | h
      · rw [Nat.testBit_two_pow_add_gt h, ih, decide_eq_true h, decide_eq_true (by omega)]
      · subst h
        rw [Nat.testBit_two_pow_add_eq, ih]
        simp [hf]
      · rw [Nat.testBit_lt_two_pow (Nat.lt_of_lt_of_le (show 2 ^ n + mk f n < 2 ^ (n + 1) by rw [Nat.pow_succ]; omega) (Nat.pow_le_pow_right (by omega) h)), decide_eq_false (by omega)]
        rfl
    · rw [if_neg hf, Nat.add_zero, ih]
      rcases Nat.lt_trichotomy i n with h | h | h
      · rw [decide_eq_true h, decide_eq_true (by omega)]
      · subst h
        simp [hf]
      · rw [decide_eq_false (by omega), decide_eq_false (by omega)]
theorem mk_cong {f g : Nat → Bool} : ∀ {n : Nat}, (∀ k, k < n → f k = g k) → mk f n = mk g n
  | 0, _ => rfl
  | n + 1, h => by rw [mk, mk, mk_cong (fun k hk => h k (by omega)), h n (by omega)]
/-- two masks with the same bits -/
theorem bs_ext {a b : Nat} (h : ∀ i, a.testBit i = b.testBit i) : a = b := Nat.eq_of_testBit_eq h
theorem bs_mk (f : Nat → Bool) {p : Nat} (hp : p < 30) {c : Prop} [Decidable c] (hc : c ↔ f p = true) : nI (mk f p) ||| ((if c then 1 else 0 : Int32) <<< (nI p &&& 31)) = nI (mk f (p + 1)) := by
  have hlt := mk_lt f p
  rw [mk]
  by_cases h : c
  · rw [if_pos h, if_pos (hc.mp h), bs_shl (by omega)]
    have h1 := fa_or_sum (k := p) (a := mk f p) 1 hlt
    rw [Nat.mul_one] at h1
    rw [Int32.or_comm, h1, Nat.add_comm]
  · rw [if_neg h, if_neg (fun q => h (hc.mpr q)), Nat.add_zero]
    have h0 : (0 : Int32) <<< (nI p &&& 31) = nI 0 := by
      have h2 := pk_shlN (n := 0) (nI p &&& 31) p (bs_sm p (by omega)) (by omega)
      rw [Nat.zero_mul] at h2
      exact h2
    rw [h0]
    show nI (mk f p) ||| nI 0 = _
    rw [fa_or, Nat.or_zero]
theorem bs_bt {a i : Nat} (hi : i < 32) : bt (nI a) i = a.testBit i := by
  unfold bt nI
  show (BitVec.ofNat 32 a).getLsbD i = _
  rw [BitVec.getLsbD_ofNat]
  simp [hi]
theorem bs_big {a i : Nat} (ha : a < 2 ^ 31) (hi : 31 ≤ i) : a.testBit i = false := Nat.testBit_lt_two_pow (Nat.lt_of_lt_of_le ha (Nat.pow_le_pow_right (by omega) hi))
/-- no bit of a is wanting in b -/
theorem bs_sub {a b : Nat} (ha : a < 2 ^ 31) (hb : b < 2 ^ 31) : nI a &&& (nI b ^^^ (-1)) = 0 ↔ ∀ i, a.testBit i = true → b.testBit i = true := by
  constructor
  · intro h i hi
    have hlt : i < 31 := Nat.lt_of_not_le fun q => by rw [bs_big ha q] at hi; cases hi
    have h1 : bt (nI a &&& (nI b ^^^ (-1))) i = false := by rw [h]; exact b_0 i
    rw [b_and, b_xor, b_m1 i (by omega), bs_bt (by omega), bs_bt (by omega), hi] at h1
    simpa using h1
  · intro h
    apply b_ext
    intro i hi
    rw [b_and, b_xor, b_m1 i hi, b_0, bs_bt hi, bs_bt hi]
    cases ha2 : a.testBit i with
    | false => rfl
    | true => rw [h i ha2]; rfl
/-- bits of a, but b's -/
theorem bs_diff {a b : Nat} (ha : a < 2 ^ 31) (hb : b < 2 ^ 31) : nI a &&& (nI b ^^^ (-1)) = nI (mk (fun i => a.testBit i && !b.testBit i) 31) := by
  apply b_ext
  intro i hi
  rw [b_and, b_xor, b_m1 i hi, bs_bt hi, bs_bt hi, bs_bt hi, mk_bit]
  by_cases h : i < 31
  · simp [h]
  · simp [h, bs_big ha (by omega : 31 ≤ i)]
/-- a place below n, or none -/
def ix (x : Int32) (n : Nat) : Option Nat := if 0 ≤ x.toInt ∧ x.toInt < n then some x.toInt.toNat else none
theorem ix_nI {h n : Nat} (hh : h < n) (hn : n < 2 ^ 31) : ix (nI h) n = some h := by
  unfold ix
  rw [nI_toInt (by omega)]
  simp [hh]
theorem ix_cases (x : Int32) {n : Nat} (hn : n < 2 ^ 30) : (∃ h, h < n ∧ x = nI h ∧ ix x n = some h) ∨ (ix x n = none ∧ ∀ h, h < n → x ≠ nI h) := by
  by_cases hx : 0 ≤ x.toInt ∧ x.toInt < n
  · left
    have e : x = nI x.toInt.toNat := by
      rw [← Int32.toInt_inj, nI_toInt (by omega)]
      omega
    refine ⟨x.toInt.toNat, by omega, e, ?_⟩
    unfold ix
    rw [if_pos hx]
  · right
    refine ⟨by unfold ix; rw [if_neg hx], fun h hh e => hx ?_⟩
    rw [e, nI_toInt (by omega)]
    omega
theorem ix_ref {x : Int32} {n : Nat} (hn : n < 2 ^ 30) : (¬ (x < 0) ∧ ¬ (nI n - 1 < x)) ↔ ∃ h, h < n ∧ x = nI h := by
  have e : (nI n - 1).toInt = (n : Int) - 1 := by
    have := pk_sub_toInt (a := n) (b := 1) hn (by omega)
    exact this
  rw [Int32.lt_iff_toInt_lt, Int32.lt_iff_toInt_lt, e, show (0 : Int32).toInt = 0 from rfl]
  constructor
  · rintro ⟨h1, h2⟩
    refine ⟨x.toInt.toNat, by omega, ?_⟩
    rw [← Int32.toInt_inj, nI_toInt (by omega)]
    omega
  · rintro ⟨h, hh, rfl⟩
    rw [nI_toInt (by omega)]
    omega
theorem ix_cls {x : Int32} {n : Nat} (hn : n < 2 ^ 30) : ((x < 0) ∨ ¬ (x < nI n)) ↔ ¬ ∃ h, h < n ∧ x = nI h := by
  rw [Int32.lt_iff_toInt_lt, Int32.lt_iff_toInt_lt, nI_toInt (by omega), show (0 : Int32).toInt = 0 from rfl]
  constructor
  · rintro h ⟨k, hk, rfl⟩
    rw [nI_toInt (by omega)] at h
    omega
  · intro h
    apply Classical.byContradiction
    intro q
    refine h ⟨x.toInt.toNat, by omega, ?_⟩
    rw [← Int32.toInt_inj, nI_toInt (by omega)]
    omega
/-- a number from 0 to n -/
theorem ix_lit {x : Int32} {n : Nat} (hn : n < 2 ^ 30) : (¬ (x < 0) ∧ ¬ (nI n < x)) ↔ ∃ h, h ≤ n ∧ x = nI h := by
  rw [Int32.lt_iff_toInt_lt, Int32.lt_iff_toInt_lt, nI_toInt (by omega), show (0 : Int32).toInt = 0 from rfl]
  constructor
  · rintro ⟨h1, h2⟩
    refine ⟨x.toInt.toNat, by omega, ?_⟩
    rw [← Int32.toInt_inj, nI_toInt (by omega)]
    omega
  · rintro ⟨h, hh, rfl⟩
    rw [nI_toInt (by omega)]
    omega
/-- a loop that counts up to N -/
theorem nh_loop {α : Type} (G : Nat → α → Prop) (I : Nat → α → Prop) (N : Nat) (hend : ∀ a, I N a → G N a) (hstep : ∀ i a, i < N → I i a → (∀ b, I (i + 1) b → G (i + 1) b) → G i a) : ∀ (d i : Nat) (a : α), i + d = N → I i a → G i a
  | 0, i, a, h, hI => by
    have e : i = N := by omega
    subst e
    exact hend a hI
  | d + 1, i, a, h, hI => hstep i a (by omega) hI (fun b hb => nh_loop G I N hend hstep d (i + 1) b (by omega) hb)
/-- a value or none, as the machine has it -/
def ot (o : Option Nat) : Int32 := match o with
  | none => -1
  | some n => nI n
theorem bs_get (σ : nh_S) (k i : Nat) (x : Int32) (k' j : Nat) : (nh_wa σ k i x).2.1 k' j = if k' = k ∧ j = i then x else σ.2.1 k' j := by
  unfold nh_wa nh_sa
  by_cases h : k' = k
  · subst h
    by_cases h2 : j = i
    · subst h2; simp [upd]
    · simp [upd, h2]
  · simp [h]
theorem bs_geti (σ : nh_S) (k i : Nat) (x : Int32) (k' j : Nat) : (nh_si σ k i x).1 k' j = if k' = k ∧ j = i then x else σ.1 k' j := by
  unfold nh_si
  by_cases h : k' = k
  · subst h
    by_cases h2 : j = i
    · subst h2; simp
    · simp [h2]
  · simp [h]
theorem bs_getr (σ : nh_S) (k i x : Nat) (k' j : Nat) : (nh_sr σ k i x).2.2 k' j = if k' = k ∧ j = i then x else σ.2.2 k' j := by
  unfold nh_sr
  by_cases h : k' = k
  · subst h
    by_cases h2 : j = i
    · subst h2; simp
    · simp [h2]
  · simp [h]
theorem bs_wa1 (σ : nh_S) (k i : Nat) (x : Int32) : (nh_wa σ k i x).1 = σ.1 := rfl
theorem bs_wa3 (σ : nh_S) (k i : Nat) (x : Int32) : (nh_wa σ k i x).2.2 = σ.2.2 := rfl
theorem bs_si2 (σ : nh_S) (k i : Nat) (x : Int32) : (nh_si σ k i x).2 = σ.2 := rfl
theorem bs_sr1 (σ : nh_S) (k i x : Nat) : (nh_sr σ k i x).1 = σ.1 := rfl
theorem bs_sr2 (σ : nh_S) (k i x : Nat) : (nh_sr σ k i x).2.1 = σ.2.1 := rfl
