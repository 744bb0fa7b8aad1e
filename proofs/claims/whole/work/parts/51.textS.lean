/-! TEXTS, on the spec's side -/
def rxF (p : Nat → Bool) (n : Nat) : Nat → Nat → Nat
  | 0, a => a
  | f + 1, a => if a < n ∧ p a = true then rxF p n f (a + 1) else a
/-- the first place from a on that p does not hold of -/
def rx (p : Nat → Bool) (n a : Nat) : Nat := rxF p n (n - a) a
theorem rx_eq (p : Nat → Bool) (n a : Nat) : rx p n a = if a < n ∧ p a = true then rx p n (a + 1) else a := by
  unfold rx
  by_cases h : a < n
  · rw [show n - a = (n - (a + 1)) + 1 by omega, rxF]
  · rw [if_neg (fun q => h q.1), show n - a = 0 by omega, rxF]
theorem rx_ge (p : Nat → Bool) (n : Nat) : ∀ (d a : Nat), n ≤ a + d → a ≤ rx p n a
  | 0, a, h => by rw [rx_eq, if_neg (by omega)]; exact Nat.le_refl _
  | d + 1, a, h => by
    rw [rx_eq]
    split
    · have := rx_ge p n d (a + 1) (by omega); omega
    · exact Nat.le_refl _
theorem rx_le (p : Nat → Bool) (n : Nat) : ∀ (d a : Nat), n ≤ a + d → a ≤ n → rx p n a ≤ n
  | 0, a, h, ha => by rw [rx_eq, if_neg (by omega)]; exact ha
  | d + 1, a, h, ha => by
    rw [rx_eq]
    split
    · rename_i q; exact rx_le p n d (a + 1) (by omega) (by omega)
    · exact ha
theorem rx_stop (p : Nat → Bool) (n : Nat) : ∀ (d a : Nat), n ≤ a + d → rx p n a < n → p (rx p n a) = false
  | 0, a, h => by
    rw [rx_eq, if_neg (by omega)]
    intro q; omega
  | d + 1, a, h => by
    rw [rx_eq]
    split
    · exact rx_stop p n d (a + 1) (by omega)
    · rename_i q
      intro h2
      cases e : p a with
      | false => rfl
      | true => exact absurd ⟨h2, e⟩ q
theorem rx_in (p : Nat → Bool) (n : Nat) : ∀ (d a i : Nat), n ≤ a + d → a ≤ i → i < rx p n a → p i = true ∧ i < n
  | 0, a, i, h, h1 => by
    rw [rx_eq, if_neg (by omega)]
    intro q; omega
  | d + 1, a, i, h, h1 => by
    rw [rx_eq]
    split
    · rename_i q
      intro h2
      rcases (show i = a ∨ a + 1 ≤ i by omega) with e | e
      · subst e; exact ⟨q.2, q.1⟩
      · exact rx_in p n d (a + 1) i (by omega) e h2
    · intro q; omega
theorem rx_at {p : Nat → Bool} {n a : Nat} (h : a < n → p a = false) : rx p n a = a := by
  rw [rx_eq, if_neg]
  rintro ⟨h1, h2⟩
  rw [h h1] at h2
  cases h2
def sk (T : Nat → Nat) (n a : Nat) : Nat := rx (fun i => T i == 32) n a
def dge (T : Nat → Nat) (n a : Nat) : Nat := rx (fun i => decide (48 ≤ T i ∧ T i ≤ 57)) n a
def lte (T : Nat → Nat) (n a : Nat) : Nat := rx (fun i => decide (97 ≤ T i ∧ T i ≤ 122)) n a
theorem sk_ge (T : Nat → Nat) (n a : Nat) : a ≤ sk T n a := rx_ge _ _ n a (by omega)
theorem sk_le {T : Nat → Nat} {n a : Nat} (h : a ≤ n) : sk T n a ≤ n := rx_le _ _ n a (by omega) h
theorem dge_ge (T : Nat → Nat) (n a : Nat) : a ≤ dge T n a := rx_ge _ _ n a (by omega)
theorem dge_le {T : Nat → Nat} {n a : Nat} (h : a ≤ n) : dge T n a ≤ n := rx_le _ _ n a (by omega) h
theorem lte_ge (T : Nat → Nat) (n a : Nat) : a ≤ lte T n a := rx_ge _ _ n a (by omega)
theorem lte_le {T : Nat → Nat} {n a : Nat} (h : a ≤ n) : lte T n a ≤ n := rx_le _ _ n a (by omega) h
theorem sk_sk (T : Nat → Nat) (n a : Nat) : sk T n (sk T n a) = sk T n a := rx_at (fun h => rx_stop _ _ n a (by omega) h)
/-- the value of k figures -/
def vl (T : Nat → Nat) (s : Nat) : Nat → Nat
  | 0 => 0
  | k + 1 => 10 * vl T s k + (T (s + k) - 48)
/-- what reading gives: the FAULT and its place, or what is read and the place behind -/
abbrev Rs (α : Type) : Type := Except (Nat × Nat) (α × Nat)
def rb {α β : Type} (x : Rs α) (f : α → Nat → Rs β) : Rs β := match x with
  | .error z => .error z
  | .ok y => f y.1 y.2
theorem rb_bad {α β : Type} (z : Nat × Nat) (f : α → Nat → Rs β) : rb (.error z : Rs α) f = .error z := rfl
theorem rb_ok {α β : Type} (v : α) (a : Nat) (f : α → Nat → Rs β) : rb (.ok (v, a)) f = f v a := rfl
/-- a NUMBER from lo on below hi: it and where it begins -/
def tkN (T : Nat → Nat) (n lo hi a : Nat) : Rs (Nat × Nat) :=
  if dge T n (sk T n a) = sk T n a then .error (1, sk T n a)
  else if dge T n (sk T n a) - sk T n a < 4 ∧ lo ≤ vl T (sk T n a) (dge T n (sk T n a) - sk T n a) ∧ vl T (sk T n a) (dge T n (sk T n a) - sk T n a) < hi then .ok ((vl T (sk T n a) (dge T n (sk T n a) - sk T n a), sk T n a), dge T n (sk T n a))
  else .error (2, sk T n a)
def tkE (T : Nat → Nat) (n a : Nat) : Rs Unit := if sk T n a < n ∧ T (sk T n a) = 59 then .ok ((), sk T n a + 1) else .error (1, sk T n a)
def wd (T : Nat → Nat) (n a : Nat) (w : List Nat) : Bool := decide (lte T n (sk T n a) - sk T n a = w.length ∧ ∀ k, k < w.length → T (sk T n a + k) = w.getD k 0)
theorem wd_iff {T : Nat → Nat} {n a : Nat} {w : List Nat} : wd T n a w = true ↔ (lte T n (sk T n a) - sk T n a = w.length ∧ ∀ k, k < w.length → T (sk T n a + k) = w.getD k 0) := by unfold wd; exact decide_eq_true_iff
def tkL (T : Nat → Nat) (n : Nat) : List Nat → Nat → Rs (List Nat)
  | [], a => .ok ([], a)
  | hi :: L, a => rb (tkN T n 0 hi a) (fun v e => rb (tkL T n L e) (fun vs e2 => .ok (v.1 :: vs, e2)))
abbrev sWy (P : SP) (a b : Nat) : Nat := P 27 a b
def nHouse (P : SP) (vs : List Nat) : SP := fun t i j => if t = 0 ∧ i = 0 ∧ j = 0 then sH P + 1 else if t = 7 ∧ i = sH P ∧ j = 0 then vs.getD 0 0 else if t = 8 ∧ i = sH P ∧ j = 0 then vs.getD 1 0 else if t = 6 ∧ i < 4 ∧ j = sH P then vs.getD (2 + i) 0 else P t i j
def tkHouse (T : Nat → Nat) (n : Nat) (P : SP) (s a : Nat) : Rs SP := if 9 ≤ sH P then .error (3, s) else rb (tkL T n [61, 61, 101, 101, 101, 101] a) (fun vs e => rb (tkE T n e) (fun _ e2 => .ok (nHouse P vs, e2)))
def nWay (P : SP) (x y m : Nat) : SP := sUp (sUp P 27 x y m) 27 y x m
def tkWay (T : Nat → Nat) (n : Nat) (P : SP) (a : Nat) : Rs SP := rb (tkN T n 0 (sH P) a) (fun x e => rb (tkN T n 0 (sH P) e) (fun y e2 => if x.1 = y.1 ∨ sWy P x.1 y.1 ≠ 0 then .error (4, y.2) else rb (tkN T n 1 100 e2) (fun m e3 => rb (tkE T n e3) (fun _ e4 => .ok (nWay P x.1 y.1 m.1, e4)))))
def tkQ (T : Nat → Nat) (n p : Nat) : Nat → Nat → Nat → Rs Nat
  | 0, B, a => .ok (B, a)
  | f + 1, B, a => rb (tkN T n 0 p a) (fun q e => if B.testBit q.1 = true then .error (4, q.2) else if sk T n e < n ∧ T (sk T n e) = 44 then tkQ T n p f (B ||| 2 ^ q.1) (sk T n e + 1) else .ok (B ||| 2 ^ q.1, sk T n e))
def tkOn (T : Nat → Nat) (n p a : Nat) : Rs Nat := if wd T n a [111, 110] = true then tkQ T n p 12 0 (lte T n (sk T n a)) else .ok (0, sk T n a)
def nPart (P : SP) (h m g B : Nat) : SP := sUp (sUp (sUp (sUp (sUp P 9 (sP P) 0 h) 2 (sP P) 0 m) 3 (sP P) 0 g) 4 (sP P) 0 B) 1 0 0 (sP P + 1)
def tkPart (T : Nat → Nat) (n : Nat) (P : SP) (s a : Nat) : Rs SP := if 12 ≤ sP P then .error (3, s) else rb (tkN T n 0 (sH P) a) (fun h e => rb (tkN T n 0 61 e) (fun m e2 => rb (tkN T n 0 100 e2) (fun g e3 => rb (tkOn T n (sP P) e3) (fun B e4 => rb (tkE T n e4) (fun _ e5 => .ok (nPart P h.1 m.1 g.1 B, e5))))))
def tkC (T : Nat → Nat) (n : Nat) (P : SP) (a : Nat) : Rs SP :=
  if wd T n a [104, 111, 117, 115, 101] = true then tkHouse T n P (sk T n a) (lte T n (sk T n a))
  else if wd T n a [119, 97, 121] = true then tkWay T n P (lte T n (sk T n a))
  else if wd T n a [112, 97, 114, 116] = true then tkPart T n P (sk T n a) (lte T n (sk T n a))
  else .error (1, sk T n a)
def tkAll (T : Nat → Nat) (n : Nat) : Nat → SP → Nat → Rs SP
  | 0, P, a => .ok (P, a)
  | f + 1, P, a => if sk T n a < n then rb (tkC T n P a) (fun P2 e => tkAll T n f P2 e) else .ok (P, sk T n a)
def nWake (P : SP) (x y : Nat) : SP := sUp (sUp (sUp P 17 (sPn P) 0 x) 18 (sPn P) 0 y) 16 0 0 (sPn P + 1)
/-- whether one is told already as B -/
def wkn (P : SP) (y : Nat) : Nat → Bool
  | 0 => false
  | i + 1 => wkn P y i || decide (sPb P i = y)
theorem wkn_iff {P : SP} {y : Nat} : ∀ {n : Nat}, wkn P y n = true ↔ ∃ i, i < n ∧ sPb P i = y
  | 0 => by simp [wkn]
  | n + 1 => by
    rw [wkn, Bool.or_eq_true, wkn_iff, decide_eq_true_iff]
    constructor
    · rintro (⟨i, h1, h2⟩ | h)
      · exact ⟨i, by omega, h2⟩
      · exact ⟨n, by omega, h⟩
    · rintro ⟨i, h1, h2⟩
      rcases (show i < n ∨ i = n by omega) with q | rfl
      · exact Or.inl ⟨i, q, h2⟩
      · exact Or.inr h2
def tkW (T : Nat → Nat) (n H : Nat) (P : SP) (a : Nat) : Rs SP :=
  if wd T n a [119, 97, 107, 101] = true then (if 20 ≤ sPn P then .error (3, sk T n a) else rb (tkN T n 0 H (lte T n (sk T n a))) (fun x e => rb (tkN T n 0 H e) (fun y e2 => if x.1 = y.1 ∨ wkn P y.1 (sPn P) = true then .error (4, y.2) else rb (tkE T n e2) (fun _ e3 => .ok (nWake P x.1 y.1, e3)))))
  else .error (1, sk T n a)
def tkP (T : Nat → Nat) (n H : Nat) : Nat → SP → Nat → Rs SP
  | 0, P, a => .ok (P, a)
  | f + 1, P, a => if sk T n a < n then rb (tkW T n H P a) (fun P2 e => tkP T n H f P2 e) else .ok (P, sk T n a)
/-! where reading gets to -/
def fine {α : Type} (n a : Nat) (x : Rs α) : Prop := match x with
  | .error z => 1 ≤ z.1 ∧ z.1 ≤ 4 ∧ z.2 ≤ n
  | .ok y => a ≤ y.2 ∧ y.2 ≤ n
theorem fine_bind {α β : Type} {n a : Nat} {x : Rs α} {f : α → Nat → Rs β} (hx : fine n a x) (hf : ∀ v e, x = .ok (v, e) → a ≤ e → e ≤ n → fine n e (f v e)) : fine n a (rb x f) := by
  cases x with
  | error z => exact hx
  | ok y =>
    obtain ⟨v, e⟩ := y
    have h := hf v e rfl hx.1 hx.2
    rw [rb_ok]
    cases hfe : f v e with
    | error z => rw [hfe] at h; exact h
    | ok w => rw [hfe] at h; exact ⟨Nat.le_trans hx.1 h.1, h.2⟩
theorem fine_mono {α : Type} {n a b : Nat} {x : Rs α} (h : fine n a x) (hab : b ≤ a) : fine n b x := by
  cases x with
  | error z => exact h
  | ok y => exact ⟨Nat.le_trans hab h.1, h.2⟩
theorem tkN_fine {T : Nat → Nat} {n lo hi a : Nat} (ha : a ≤ n) : fine n a (tkN T n lo hi a) := by
  have h1 := sk_ge T n a
  have h2 := sk_le (T := T) ha
  have h3 := dge_ge T n (sk T n a)
  have h4 := dge_le (T := T) h2
  unfold tkN
  split
  · exact ⟨by omega, by omega, h2⟩
  · split
    · exact ⟨by omega, h4⟩
    · exact ⟨by omega, by omega, h2⟩
theorem tkE_fine {T : Nat → Nat} {n a : Nat} (ha : a ≤ n) : fine n a (tkE T n a) := by
  have h1 := sk_ge T n a
  have h2 := sk_le (T := T) ha
  unfold tkE
  split
  · rename_i q; exact ⟨by omega, by omega⟩
  · exact ⟨by omega, by omega, h2⟩
theorem tkN_ok {T : Nat → Nat} {n lo hi a e : Nat} {v : Nat × Nat} (h : tkN T n lo hi a = .ok (v, e)) : lo ≤ v.1 ∧ v.1 < hi ∧ v.2 = sk T n a ∧ e = dge T n (sk T n a) := by
  unfold tkN at h
  split at h
  · cases h
  · split at h
    · rename_i q
      cases h
      exact ⟨q.2.1, q.2.2, rfl, rfl⟩
    · cases h
theorem tkN_s {T : Nat → Nat} {n lo hi a e : Nat} {v : Nat × Nat} (ha : a ≤ n) (h : tkN T n lo hi a = .ok (v, e)) : v.2 ≤ n := by
  rw [(tkN_ok h).2.2.1]
  exact sk_le ha
theorem tkL_fine {T : Nat → Nat} {n : Nat} : ∀ {L : List Nat} {a : Nat}, a ≤ n → fine n a (tkL T n L a)
  | [], a, ha => ⟨Nat.le_refl _, ha⟩
  | hi :: L, a, ha => by
    rw [tkL]
    refine fine_bind (tkN_fine ha) (fun v e _ _ he => fine_bind (tkL_fine he) (fun vs e2 _ _ he2 => ⟨Nat.le_refl _, he2⟩))
theorem tkHouse_fine {T : Nat → Nat} {n : Nat} {P : SP} {s a : Nat} (ha : a ≤ n) (hs : s ≤ n) : fine n a (tkHouse T n P s a) := by
  unfold tkHouse
  split
  · exact ⟨by omega, by omega, hs⟩
  · exact fine_bind (tkL_fine ha) (fun vs e _ _ he => fine_bind (tkE_fine he) (fun _ e2 _ _ he2 => ⟨Nat.le_refl _, he2⟩))
theorem tkWay_fine {T : Nat → Nat} {n : Nat} {P : SP} {a : Nat} (ha : a ≤ n) : fine n a (tkWay T n P a) := by
  unfold tkWay
  refine fine_bind (tkN_fine ha) (fun x e _ _ he => fine_bind (tkN_fine he) (fun y e2 hy _ he2 => ?_))
  split
  · exact ⟨by omega, by omega, by have := tkN_s he hy; exact this⟩
  · exact fine_bind (tkN_fine he2) (fun _ e3 _ _ he3 => fine_bind (tkE_fine he3) (fun _ e4 _ _ he4 => ⟨Nat.le_refl _, he4⟩))
theorem tkQ_fine {T : Nat → Nat} {n p : Nat} : ∀ {f B a : Nat}, a ≤ n → fine n a (tkQ T n p f B a)
  | 0, B, a, ha => ⟨Nat.le_refl _, ha⟩
  | f + 1, B, a, ha => by
    rw [tkQ]
    refine fine_bind (tkN_fine ha) (fun q e hq _ he => ?_)
    have h1 := sk_ge T n e
    have h2 := sk_le (T := T) he
    split
    · exact ⟨by omega, by omega, by have := tkN_s ha hq; exact this⟩
    · split
      · rename_i z
        exact fine_mono (tkQ_fine (by omega)) (by omega)
      · exact ⟨h1, h2⟩
theorem tkOn_fine {T : Nat → Nat} {n p a : Nat} (ha : a ≤ n) : fine n a (tkOn T n p a) := by
  have h1 := sk_ge T n a
  have h2 := sk_le (T := T) ha
  have h3 := lte_ge T n (sk T n a)
  unfold tkOn
  split
  · exact fine_mono (tkQ_fine (lte_le h2)) (by omega)
  · exact ⟨h1, h2⟩
theorem tkPart_fine {T : Nat → Nat} {n : Nat} {P : SP} {s a : Nat} (ha : a ≤ n) (hs : s ≤ n) : fine n a (tkPart T n P s a) := by
  unfold tkPart
  split
  · exact ⟨by omega, by omega, hs⟩
  · exact fine_bind (tkN_fine ha) (fun _ e _ _ he => fine_bind (tkN_fine he) (fun _ e2 _ _ he2 => fine_bind (tkN_fine he2) (fun _ e3 _ _ he3 => fine_bind (tkOn_fine he3) (fun _ e4 _ _ he4 => fine_bind (tkE_fine he4) (fun _ e5 _ _ he5 => ⟨Nat.le_refl _, he5⟩)))))
/-- a clause goes ahead -/
theorem tkC_fine {T : Nat → Nat} {n : Nat} {P : SP} {a : Nat} (ha : a ≤ n) : fine n (a + 1) (tkC T n P a) := by
  have h1 := sk_ge T n a
  have h2 := sk_le (T := T) ha
  have h3 := lte_ge T n (sk T n a)
  have h4 := lte_le (T := T) h2
  unfold tkC
  split
  · rename_i w
    have := (wd_iff.mp w).1
    exact fine_mono (tkHouse_fine h4 h2) (by rw [show [104, 111, 117, 115, 101].length = 5 from rfl] at this; omega)
  · split
    · rename_i w
      have := (wd_iff.mp w).1
      exact fine_mono (tkWay_fine h4) (by rw [show [119, 97, 121].length = 3 from rfl] at this; omega)
    · split
      · rename_i w
        have := (wd_iff.mp w).1
        exact fine_mono (tkPart_fine h4 h2) (by rw [show [112, 97, 114, 116].length = 4 from rfl] at this; omega)
      · exact ⟨by omega, by omega, h2⟩
theorem tkAll_fine {T : Nat → Nat} {n : Nat} : ∀ {f : Nat} {P : SP} {a : Nat}, a ≤ n → fine n a (tkAll T n f P a)
  | 0, P, a, ha => ⟨Nat.le_refl _, ha⟩
  | f + 1, P, a, ha => by
    rw [tkAll]
    split
    · exact fine_bind (fine_mono (tkC_fine ha) (by omega)) (fun P2 e _ _ he => tkAll_fine he)
    · exact ⟨sk_ge T n a, sk_le ha⟩
theorem tkW_fine {T : Nat → Nat} {n H : Nat} {P : SP} {a : Nat} (ha : a ≤ n) : fine n (a + 1) (tkW T n H P a) := by
  have h1 := sk_ge T n a
  have h2 := sk_le (T := T) ha
  have h3 := lte_ge T n (sk T n a)
  have h4 := lte_le (T := T) h2
  unfold tkW
  split
  · rename_i w
    have := (wd_iff.mp w).1
    rw [show [119, 97, 107, 101].length = 4 from rfl] at this
    split
    · exact ⟨by omega, by omega, h2⟩
    · refine fine_mono (a := lte T n (sk T n a)) ?_ (by omega)
      refine fine_bind (tkN_fine h4) (fun x e _ _ he => fine_bind (tkN_fine he) (fun y e2 hy _ he2 => ?_))
      split
      · exact ⟨by omega, by omega, by have := tkN_s he hy; exact this⟩
      · exact fine_bind (tkE_fine he2) (fun _ e3 _ _ he3 => ⟨Nat.le_refl _, he3⟩)
  · exact ⟨by omega, by omega, h2⟩
theorem tkP_fine {T : Nat → Nat} {n H : Nat} : ∀ {f : Nat} {P : SP} {a : Nat}, a ≤ n → fine n a (tkP T n H f P a)
  | 0, P, a, ha => ⟨Nat.le_refl _, ha⟩
  | f + 1, P, a, ha => by
    rw [tkP]
    split
    · exact fine_bind (fine_mono (tkW_fine ha) (by omega)) (fun P2 e _ _ he => tkP_fine he)
    · exact ⟨sk_ge T n a, sk_le ha⟩
