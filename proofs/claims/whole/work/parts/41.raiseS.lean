/-! RAISING, on the spec's side: c when each PART comes -/
def rq (S : SP) (f : Nat → Nat) (p c0 : Nat) : Nat → Nat
  | 0 => c0
  | q + 1 => if (sBe S p).testBit q = true ∧ rq S f p c0 q < f q + sMi S q then f q + sMi S q else rq S f p c0 q
def rdT (S : SP) (c : Nat → Nat) : Nat → Nat → Nat
  | 0 => fun _ => 0
  | p + 1 => fun q => if q = p then rq S (rdT S c p) p (c p) p else rdT S c p q
/-- when a PART is ready -/
def rdy (S : SP) (c : Nat → Nat) (p : Nat) : Nat := rdT S c (p + 1) p
theorem rdT_eq (S : SP) (c : Nat → Nat) {q : Nat} : ∀ {n : Nat}, q < n → rdT S c n q = rdy S c q
  | 0, h => absurd h (by omega)
  | n + 1, h => by
    by_cases e : q = n
    · subst e; rfl
    · rw [rdT]
      dsimp only
      rw [if_neg e]
      exact rdT_eq S c (by omega)
theorem rq_cong {S : SP} {f g : Nat → Nat} {p c0 : Nat} : ∀ {n : Nat}, (∀ q, q < n → (sBe S p).testBit q = true → f q = g q) → rq S f p c0 n = rq S g p c0 n
  | 0, _ => rfl
  | n + 1, h => by
    rw [rq, rq, rq_cong (fun q hq => h q (by omega))]
    by_cases e : (sBe S p).testBit n = true
    · rw [h n (by omega) e]
    · rw [if_neg (fun z => e z.1), if_neg (fun z => e z.1)]
theorem rdy_eq (S : SP) (c : Nat → Nat) (p : Nat) : rdy S c p = rq S (rdy S c) p (c p) p := by
  unfold rdy
  rw [rdT]
  dsimp only
  rw [if_pos rfl]
  apply rq_cong
  intro q hq _
  exact rdT_eq S c hq
theorem rq_le {S : SP} {f : Nat → Nat} {p c0 B : Nat} (hc : c0 ≤ B) (hf : ∀ q, q < p → (sBe S p).testBit q = true → f q + sMi S q ≤ B) : ∀ {n : Nat}, n ≤ p → rq S f p c0 n ≤ B
  | 0, _ => hc
  | n + 1, h => by
    rw [rq]
    split
    · rename_i q; exact hf n (by omega) q.1
    · exact rq_le hc hf (by omega)
theorem rdy_le {S : SP} {c : Nat → Nat} {B : Nat} (hc : ∀ p, p < sP S → c p ≤ B) (hm : ∀ p, p < sP S → sMi S p ≤ 60) : ∀ (n p : Nat), p < n → p < sP S → rdy S c p ≤ B + 60 * p
  | 0, p, h, _ => absurd h (by omega)
  | n + 1, p, h, hp => by
    rw [rdy_eq]
    refine rq_le (by have := hc p hp; omega) (fun q hq _ => ?_) (Nat.le_refl p)
    have h1 := rdy_le hc hm n q (by omega) (by omega)
    have h2 := hm q (by omega)
    omega
/-- where a PART goes among those that are there -/
def ik (r : Nat → Nat) (x : Nat) (L : List Nat) : Nat → Nat
  | 0 => 0
  | k + 1 => if x < r (L.getD k 0) then ik r x L k else k + 1
theorem ik_le (r : Nat → Nat) (x : Nat) (L : List Nat) : ∀ n, ik r x L n ≤ n
  | 0 => Nat.le_refl 0
  | n + 1 => by
    rw [ik]
    split
    · exact Nat.le_succ_of_le (ik_le r x L n)
    · exact Nat.le_refl _
def insR (r : Nat → Nat) (p : Nat) (L : List Nat) : List Nat := L.take (ik r (r p) L L.length) ++ p :: L.drop (ik r (r p) L L.length)
/-- the order in which the PARTS of a SET are put in -/
def ord (S : SP) (c : Nat → Nat) (m : Nat) : Nat → List Nat
  | 0 => []
  | p + 1 => if m.testBit p = true then insR (rdy S c) p (ord S c m p) else ord S c m p
theorem insR_mem {r : Nat → Nat} {p x : Nat} {L : List Nat} : x ∈ insR r p L ↔ x = p ∨ x ∈ L := by
  unfold insR
  rw [List.mem_append, List.mem_cons]
  have h : x ∈ L ↔ x ∈ L.take (ik r (r p) L L.length) ∨ x ∈ L.drop (ik r (r p) L L.length) := by
    rw [← List.mem_append, List.take_append_drop]
  rw [h]
  constructor
  · rintro (a | a | a)
    · exact Or.inr (Or.inl a)
    · exact Or.inl a
    · exact Or.inr (Or.inr a)
  · rintro (a | a | a)
    · exact Or.inr (Or.inl a)
    · exact Or.inl a
    · exact Or.inr (Or.inr a)
theorem insR_len (r : Nat → Nat) (p : Nat) (L : List Nat) : (insR r p L).length = L.length + 1 := by
  unfold insR
  have := ik_le r (r p) L L.length
  rw [List.length_append, List.length_cons, List.length_take, List.length_drop]
  omega
theorem ord_mem {S : SP} {c : Nat → Nat} {m x : Nat} : ∀ {n : Nat}, x ∈ ord S c m n ↔ x < n ∧ m.testBit x = true
  | 0 => by simp [ord]
  | n + 1 => by
    have ih := ord_mem (S := S) (c := c) (m := m) (x := x) (n := n)
    rw [ord]
    by_cases e : m.testBit n = true
    · rw [if_pos e, insR_mem, ih]
      constructor
      · rintro (rfl | ⟨a, b⟩)
        · exact ⟨by omega, e⟩
        · exact ⟨by omega, b⟩
      · rintro ⟨a, b⟩
        rcases (show x = n ∨ x < n by omega) with q | q
        · exact Or.inl q
        · exact Or.inr ⟨q, b⟩
    · rw [if_neg e, ih]
      constructor
      · rintro ⟨a, b⟩; exact ⟨by omega, b⟩
      · rintro ⟨a, b⟩
        rcases (show x = n ∨ x < n by omega) with q | q
        · subst q; exact absurd b e
        · exact ⟨q, b⟩
theorem ord_len (S : SP) (c : Nat → Nat) (m : Nat) : ∀ n, (ord S c m n).length ≤ n
  | 0 => Nat.le_refl 0
  | n + 1 => by
    have ih := ord_len S c m n
    rw [ord]
    split
    · rw [insR_len]; omega
    · omega
/-- the minute behind the PARTS of a list -/
def stT (S : SP) (c : Nat → Nat) (L : List Nat) : Nat := L.foldl (fun e p => (if e < c p then c p else e) + sMi S p) 0
theorem stT_app (S : SP) (c : Nat → Nat) (L : List Nat) (p : Nat) : stT S c (L ++ [p]) = (if stT S c L < c p then c p else stT S c L) + sMi S p := by
  unfold stT
  rw [List.foldl_append]
  rfl
theorem stT_take {S : SP} {c : Nat → Nat} {L : List Nat} {k p : Nat} (h : L[k]? = some p) : stT S c (L.take (k + 1)) = (if stT S c (L.take k) < c p then c p else stT S c (L.take k)) + sMi S p := by
  rw [List.take_add_one, h]
  exact stT_app S c (L.take k) p
theorem stT_le {S : SP} {c : Nat → Nat} {L : List Nat} {B : Nat} (hc : ∀ p ∈ L, c p ≤ B) (hm : ∀ p ∈ L, sMi S p ≤ 60) : ∀ k, stT S c (L.take k) ≤ B + 60 * k
  | 0 => by simp [stT]
  | k + 1 => by
    have ih := stT_le hc hm k
    cases h : L[k]? with
    | none =>
      rw [List.take_of_length_le (by rw [List.getElem?_eq_none_iff] at h; omega)]
      rw [List.take_of_length_le (by rw [List.getElem?_eq_none_iff] at h; omega)] at ih
      omega
    | some p =>
      rw [stT_take h]
      have h1 := hc p (List.mem_of_getElem? h)
      have h2 := hm p (List.mem_of_getElem? h)
      split <;> omega
/-- for which PART it was waited last -/
def wtd (S : SP) (c : Nat → Nat) (L : List Nat) : Nat → Option Nat
  | 0 => none
  | k + 1 => match L[k]? with
    | none => wtd S c L k
    | some p => if k = 0 ∨ stT S c (L.take k) < c p then some p else wtd S c L k
/-- SETS with all that their PARTS go in behind -/
def clo (S : SP) (m : Nat) : Prop := ∀ p, p < sP S → m.testBit p = true → ∀ q, (sBe S p).testBit q = true → m.testBit q = true
def cmN (cm : Nat → Option Nat) (p : Nat) : Nat := (cm p).getD 0
/-- when the ladder of a SET stands -/
def miss (cm : Nat → Option Nat) (m : Nat) : Nat → Bool
  | 0 => false
  | p + 1 => miss cm m p || (m.testBit p && (cm p).isNone)
def stO (S : SP) (cm : Nat → Option Nat) (m : Nat) : Option Nat := if miss cm m (sP S) = true then none else some (stT S (cmN cm) (ord S (cmN cm) m (sP S)))
theorem miss_mono {cm : Nat → Option Nat} {m : Nat} : ∀ {n k : Nat}, miss cm m n = true → miss cm m (n + k) = true
  | n, 0, h => h
  | n, k + 1, h => by
    show (miss cm m (n + k) || _) = true
    rw [miss_mono h]
    rfl
