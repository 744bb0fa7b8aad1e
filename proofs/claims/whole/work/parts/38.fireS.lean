/-! WAKING, on the spec's side -/
/-- the clauses of a waker, in order -/
def rl (pa pb : Nat → Nat) (a : Nat) : Nat → List Nat
  | 0 => []
  | i + 1 => if pa i = a then rl pa pb a i ++ [pb i] else rl pa pb a i
def upO (W : Nat → Option Nat) (b : Nat) (v : Option Nat) : Nat → Option Nat := fun h => if h = b then v else W h
/-- one clause of a round: who is awake, the minute, the place, who is taken along -/
def gst (S : SP) (f : Nat) (aw : Nat → Bool) (x : (Nat → Option Nat) × Nat × Nat × Nat) (b : Nat) : (Nat → Option Nat) × Nat × Nat × Nat :=
  if b = f then (x.1, x.2.1 + sFar S x.2.2.1 b, b, x.2.2.2)
  else if aw b = true then (x.1, x.2.1 + sFar S x.2.2.1 b + sKy S b, b, x.2.2.2 ||| 2 ^ b)
  else (upO x.1 b (some (x.2.1 + sFar S x.2.2.1 b + sWk S b)), x.2.1 + sFar S x.2.2.1 b, b, x.2.2.2)
def go (S : SP) (f : Nat) (aw : Nat → Bool) (L : List Nat) (x : (Nat → Option Nat) × Nat × Nat × Nat) : (Nat → Option Nat) × Nat × Nat × Nat := L.foldl (gst S f aw) x
theorem go_app (S : SP) (f : Nat) (aw : Nat → Bool) (L : List Nat) (b : Nat) (x : (Nat → Option Nat) × Nat × Nat × Nat) : go S f aw (L ++ [b]) x = gst S f aw (go S f aw L x) b := by
  unfold go
  rw [List.foldl_append]
  rfl
theorem rl_mem {pa pb : Nat → Nat} {a h : Nat} : ∀ {n : Nat}, h ∈ rl pa pb a n ↔ ∃ i, i < n ∧ pa i = a ∧ pb i = h
  | 0 => by simp [rl]
  | n + 1 => by
    have ih := rl_mem (pa := pa) (pb := pb) (a := a) (h := h) (n := n)
    rw [rl]
    by_cases e : pa n = a
    · rw [if_pos e, List.mem_append, ih, List.mem_singleton]
      constructor
      · rintro (⟨i, h1, h2⟩ | rfl)
        · exact ⟨i, by omega, h2⟩
        · exact ⟨n, by omega, e, rfl⟩
      · rintro ⟨i, h1, h2, h3⟩
        rcases (show i < n ∨ i = n by omega) with q | rfl
        · exact Or.inl ⟨i, q, h2, h3⟩
        · exact Or.inr h3.symm
    · rw [if_neg e, ih]
      constructor
      · rintro ⟨i, h1, h2⟩
        exact ⟨i, by omega, h2⟩
      · rintro ⟨i, h1, h2, h3⟩
        rcases (show i < n ∨ i = n by omega) with q | rfl
        · exact ⟨i, q, h2, h3⟩
        · exact absurd h2 e
theorem rl_len {pa pb : Nat → Nat} {a : Nat} : ∀ n : Nat, (rl pa pb a n).length ≤ n
  | 0 => by simp [rl]
  | n + 1 => by
    have ih := rl_len (pa := pa) (pb := pb) (a := a) n
    rw [rl]
    split
    · rw [List.length_append, List.length_singleton]; omega
    · omega
/-- a plan whose woken ones are apart -/
def Pl (H n : Nat) (pa pb : Nat → Nat) : Prop := (∀ i, i < n → pa i < H ∧ pb i < H ∧ pa i ≠ pb i) ∧ ∀ i j, i < n → j < n → pb i = pb j → i = j
theorem rl_nd {H n : Nat} {pa pb : Nat → Nat} {a : Nat} (hp : Pl H n pa pb) : ∀ m, m ≤ n → (rl pa pb a m).Nodup
  | 0, _ => by simp [rl]
  | m + 1, hm => by
    have ih := rl_nd (a := a) hp m (by omega)
    rw [rl]
    split
    · rw [List.nodup_append]
      refine ⟨ih, by simp, ?_⟩
      intro x hx y hy
      rw [List.mem_singleton] at hy
      subst hy
      rintro rfl
      obtain ⟨i, h1, -, h3⟩ := rl_mem.mp hx
      exact absurd (hp.2 i m (by omega) (by omega) h3) (by omega)
    · exact ih
/-- when a round comes to b -/
def tim (S : SP) (f : Nat) (aw : Nat → Bool) : List Nat → Nat → Nat → Nat → Option Nat
  | [], _, _, _ => none
  | c :: L, t, p, b => if c = b then some (t + sFar S p b) else tim S f aw L (if c ≠ f ∧ aw c = true then t + sFar S p c + sKy S c else t + sFar S p c) c b
theorem tim_mem {S : SP} {f : Nat} {aw : Nat → Bool} {b : Nat} : ∀ {L : List Nat} {t p : Nat}, (∃ t1, tim S f aw L t p b = some t1) ↔ b ∈ L
  | [], t, p => by simp [tim]
  | c :: L, t, p => by
    rw [tim]
    by_cases e : c = b
    · rw [if_pos e]
      simp [e]
    · rw [if_neg e, tim_mem, List.mem_cons]
      constructor
      · intro h; exact Or.inr h
      · rintro (h | h)
        · exact absurd h.symm e
        · exact h
theorem tim_gt {S : SP} {f : Nat} {aw : Nat → Bool} {b H : Nat} (hf : ∀ x y, x < H → y < H → x ≠ y → 1 ≤ sFar S x y) : ∀ {L : List Nat} {t p t1 : Nat}, p < H → (∀ x ∈ L, x < H) → p ∉ L → L.Nodup → tim S f aw L t p b = some t1 → t < t1
  | [], t, p, t1, _, _, _, _, h => by simp [tim] at h
  | c :: L, t, p, t1, hp, hL, hn, hd, h => by
    rw [tim] at h
    have hc : c < H := hL c List.mem_cons_self
    have hne : p ≠ c := fun e => hn (e ▸ List.mem_cons_self)
    have h1 := hf p c hp hc hne
    by_cases e : c = b
    · rw [if_pos e] at h
      cases h
      subst e
      omega
    · rw [if_neg e] at h
      rw [List.nodup_cons] at hd
      have := tim_gt hf hc (fun x hx => hL x (List.mem_cons_of_mem _ hx)) hd.1 hd.2 h
      split at this <;> omega
/-- what a round does to who is awake -/
theorem go_W {S : SP} {f : Nat} {aw : Nat → Bool} : ∀ (L : List Nat) (W : Nat → Option Nat) (t p k h : Nat), L.Nodup → (go S f aw L (W, t, p, k)).1 h = match tim S f aw L t p h with
    | none => W h
    | some t1 => if h ≠ f ∧ aw h = false then some (t1 + sWk S h) else W h
  | [], W, t, p, k, h, _ => rfl
  | c :: L, W, t, p, k, h, hd => by
    rw [List.nodup_cons] at hd
    show (go S f aw L (gst S f aw (W, t, p, k) c)).1 h = _
    rw [tim]
    unfold gst
    by_cases ef : c = f
    · rw [if_pos ef, go_W L _ _ _ _ _ hd.2]
      by_cases e : c = h
      · rw [if_pos e]
        subst e
        have hn : tim S f aw L (t + sFar S p c) c c = none := by
          cases q : tim S f aw L (t + sFar S p c) c c with
          | none => rfl
          | some t1 => exact absurd (tim_mem.mp ⟨t1, q⟩) hd.1
        rw [hn]
        simp [ef]
      · rw [if_neg e, if_neg (fun z => z.1 ef)]
    · rw [if_neg ef]
      by_cases ea : aw c = true
      · rw [if_pos ea, go_W L _ _ _ _ _ hd.2]
        by_cases e : c = h
        · rw [if_pos e]
          subst e
          have hn : tim S f aw L (t + sFar S p c + sKy S c) c c = none := by
            cases q : tim S f aw L (t + sFar S p c + sKy S c) c c with
            | none => rfl
            | some t1 => exact absurd (tim_mem.mp ⟨t1, q⟩) hd.1
          rw [hn]
          simp [ea]
        · rw [if_neg e, if_pos ⟨ef, ea⟩]
      · rw [if_neg ea, go_W L _ _ _ _ _ hd.2]
        by_cases e : c = h
        · rw [if_pos e]
          subst e
          have hn : tim S f aw L (t + sFar S p c) c c = none := by
            cases q : tim S f aw L (t + sFar S p c) c c with
            | none => rfl
            | some t1 => exact absurd (tim_mem.mp ⟨t1, q⟩) hd.1
          rw [hn]
          simp [ef, ea, upO]
        · rw [if_neg e, if_neg (fun z => ea z.2)]
          have : upO W c (some (t + sFar S p c + sWk S c)) h = W h := by unfold upO; rw [if_neg (fun z => e z.symm)]
          rw [this]
/-- whom a round takes along -/
theorem go_K {S : SP} {f : Nat} {aw : Nat → Bool} : ∀ (L : List Nat) (W : Nat → Option Nat) (t p k h : Nat), (go S f aw L (W, t, p, k)).2.2.2.testBit h = (k.testBit h || decide (h ∈ L ∧ h ≠ f ∧ aw h = true))
  | [], W, t, p, k, h => by simp [go]
  | c :: L, W, t, p, k, h => by
    show (go S f aw L (gst S f aw (W, t, p, k) c)).2.2.2.testBit h = _
    unfold gst
    by_cases ef : c = f
    · rw [if_pos ef, go_K L]
      congr 1
      simp only [List.mem_cons, decide_eq_decide]
      constructor
      · rintro ⟨a, b⟩; exact ⟨Or.inr a, b⟩
      · rintro ⟨a | a, b, d⟩
        · exact absurd (a.trans ef) b
        · exact ⟨a, b, d⟩
    · rw [if_neg ef]
      by_cases ea : aw c = true
      · rw [if_pos ea, go_K L, Nat.testBit_or, Nat.testBit_two_pow]
        by_cases e : c = h
        · subst e; simp [ef, ea]
        · simp [e, show ¬ h = c from fun z => e z.symm]
      · rw [if_neg ea, go_K L]
        congr 1
        simp only [List.mem_cons, decide_eq_decide]
        constructor
        · rintro ⟨a, b⟩; exact ⟨Or.inr a, b⟩
        · rintro ⟨a | a, b, d⟩
          · exact absurd (a ▸ d) ea
          · exact ⟨a, b, d⟩
/-- the end of a round doesn't hang on who was awake -/
theorem go_end {S : SP} {f : Nat} {aw : Nat → Bool} : ∀ (L : List Nat) (W W' : Nat → Option Nat) (t p k k' : Nat), (go S f aw L (W, t, p, k)).2.1 = (go S f aw L (W', t, p, k')).2.1 ∧ (go S f aw L (W, t, p, k)).2.2.1 = (go S f aw L (W', t, p, k')).2.2.1
  | [], W, W', t, p, k, k' => ⟨rfl, rfl⟩
  | c :: L, W, W', t, p, k, k' => by
    show (go S f aw L (gst S f aw (W, t, p, k) c)).2.1 = (go S f aw L (gst S f aw (W', t, p, k') c)).2.1 ∧ (go S f aw L (gst S f aw (W, t, p, k) c)).2.2.1 = (go S f aw L (gst S f aw (W', t, p, k') c)).2.2.1
    unfold gst
    by_cases ef : c = f
    · rw [if_pos ef, if_pos ef]; exact go_end L _ _ _ _ _ _
    · rw [if_neg ef, if_neg ef]
      by_cases ea : aw c = true
      · rw [if_pos ea, if_pos ea]; exact go_end L _ _ _ _ _ _
      · rw [if_neg ea, if_neg ea]; exact go_end L _ _ _ _ _ _
def rend (S : SP) (f : Nat) (aw : Nat → Bool) (L : List Nat) (t p : Nat) : Nat × Nat := ((go S f aw L ((fun _ => none), t, p, 0)).2.1, (go S f aw L ((fun _ => none), t, p, 0)).2.2.1)
/-- bounds of a round -/
theorem go_bd {S : SP} {H f : Nat} {aw : Nat → Bool} (hfar : ∀ x y, x < H → y < H → sFar S x y ≤ 500) (hk : ∀ h, h < H → sWk S h ≤ 60 ∧ sKy S h ≤ 60) : ∀ (L : List Nat) (W : Nat → Option Nat) (t p k B : Nat), (∀ x ∈ L, x < H) → p < H → t + 620 * L.length + 60 ≤ B → (∀ h v, W h = some v → v ≤ B) → k < 2 ^ H →
    (go S f aw L (W, t, p, k)).2.1 ≤ t + 560 * L.length ∧ (go S f aw L (W, t, p, k)).2.2.1 < H ∧ (∀ h v, (go S f aw L (W, t, p, k)).1 h = some v → v ≤ B) ∧ (go S f aw L (W, t, p, k)).2.2.2 < 2 ^ H
  | [], W, t, p, k, B, _, hp, hB, hW, hkk => ⟨by show t ≤ _; omega, hp, hW, hkk⟩
  | c :: L, W, t, p, k, B, hL, hp, hB, hW, hkk => by
    have hc : c < H := hL c List.mem_cons_self
    have h1 := hfar p c hp hc
    obtain ⟨h2, h3⟩ := hk c hc
    have hL2 : ∀ x ∈ L, x < H := fun x hx => hL x (List.mem_cons_of_mem _ hx)
    rw [List.length_cons] at hB ⊢
    show (go S f aw L (gst S f aw (W, t, p, k) c)).2.1 ≤ _ ∧ (go S f aw L (gst S f aw (W, t, p, k) c)).2.2.1 < H ∧ (∀ h v, (go S f aw L (gst S f aw (W, t, p, k) c)).1 h = some v → v ≤ B) ∧ (go S f aw L (gst S f aw (W, t, p, k) c)).2.2.2 < 2 ^ H
    unfold gst
    by_cases ef : c = f
    · rw [if_pos ef]
      obtain ⟨a, b⟩ := go_bd hfar hk L W (t + sFar S p c) c k B hL2 hc (by omega) hW hkk
      exact ⟨by dsimp only; omega, b⟩
    · rw [if_neg ef]
      by_cases ea : aw c = true
      · rw [if_pos ea]
        obtain ⟨a, b⟩ := go_bd hfar hk L W (t + sFar S p c + sKy S c) c (k ||| 2 ^ c) B hL2 hc (by omega) hW (Nat.or_lt_two_pow hkk (Nat.pow_lt_pow_right (by omega) hc))
        exact ⟨by dsimp only; omega, b⟩
      · rw [if_neg ea]
        obtain ⟨a, b⟩ := go_bd hfar hk L (upO W c (some (t + sFar S p c + sWk S c))) (t + sFar S p c) c k B hL2 hc (by omega) (fun h v hv => by
          unfold upO at hv
          by_cases e : h = c
          · rw [if_pos e] at hv; cases hv; omega
          · rw [if_neg e] at hv; exact hW h v hv) hkk
        exact ⟨by dsimp only; omega, b⟩
/-- what holds while rounds are gone: W who is awake, G who went, E when and whence what was taken sets out -/
def Inv (S : SP) (n : Nat) (pa pb : Nat → Nat) (f : Nat) (aw : Nat → Bool) (W : Nat → Option Nat) (G : Nat → Bool) (E : Nat → Option (Nat × Nat)) : Prop :=
  W f = some 0 ∧
  (∀ h, h < sH S → h ≠ f → ∀ t', W h = some t' → aw h = false ∧ ∃ a, a < sH S ∧ G a = true ∧ ∃ t, W a = some t ∧ ∃ t1, tim S f aw (rl pa pb a n) t a h = some t1 ∧ t' = t1 + sWk S h) ∧
  (∀ a, a < sH S → G a = true → ∃ t, W a = some t ∧ ∀ h, h < sH S → h ≠ f → aw h = false → ∀ t1, tim S f aw (rl pa pb a n) t a h = some t1 → W h = some (t1 + sWk S h)) ∧
  (∀ h, h < sH S → ∀ x, E h = some x ↔ (h ≠ f ∧ aw h = true ∧ ∃ a, a < sH S ∧ G a = true ∧ ∃ t, W a = some t ∧ h ∈ rl pa pb a n ∧ x = rend S f aw (rl pa pb a n) t a))
theorem Inv_0 (S : SP) (n : Nat) (pa pb : Nat → Nat) (f : Nat) (aw : Nat → Bool) : Inv S n pa pb f aw (fun h => if h = f then some 0 else none) (fun _ => false) (fun _ => none) := by
  refine ⟨if_pos rfl, fun h _ hn t' ht => ?_, fun a _ h => (by cases h), fun h _ x => ⟨fun q => (by cases q), ?_⟩⟩
  · dsimp only at ht
    rw [if_neg hn] at ht
    cases ht
  · rintro ⟨-, -, a, -, q, -⟩
    cases q
theorem rl_one {H n : Nat} {pa pb : Nat → Nat} (hp : Pl H n pa pb) {a a' h : Nat} (h1 : h ∈ rl pa pb a n) (h2 : h ∈ rl pa pb a' n) : a = a' := by
  obtain ⟨i, i1, i2, i3⟩ := rl_mem.mp h1
  obtain ⟨j, j1, j2, j3⟩ := rl_mem.mp h2
  have e := hp.2 i j i1 j1 (i3.trans j3.symm)
  subst e
  exact i2.symm.trans j2
theorem rl_self {H n : Nat} {pa pb : Nat → Nat} (hp : Pl H n pa pb) {a : Nat} : a ∉ rl pa pb a n := by
  intro h
  obtain ⟨i, i1, i2, i3⟩ := rl_mem.mp h
  exact (hp.1 i i1).2.2 (i2.trans i3.symm)
theorem Inv_go {S : SP} {n : Nat} {pa pb : Nat → Nat} {f : Nat} {aw : Nat → Bool} {W : Nat → Option Nat} {G : Nat → Bool} {E : Nat → Option (Nat × Nat)} (hp : Pl (sH S) n pa pb) (hI : Inv S n pa pb f aw W G E) {a t : Nat} (ha : a < sH S) (hG : G a = false) (hWa : W a = some t) :
    Inv S n pa pb f aw (go S f aw (rl pa pb a n) (W, t, a, 0)).1 (fun h => G h || decide (h = a)) (fun h => if h ∈ rl pa pb a n ∧ h ≠ f ∧ aw h = true then some (rend S f aw (rl pa pb a n) t a) else E h) := by
  obtain ⟨h1, h2, h3, h4⟩ := hI
  have hnd := rl_nd (a := a) hp n (Nat.le_refl n)
  have hW' : ∀ h, (go S f aw (rl pa pb a n) (W, t, a, 0)).1 h = match tim S f aw (rl pa pb a n) t a h with
    | none => W h
    | some t1 => if h ≠ f ∧ aw h = false then some (t1 + sWk S h) else W h := fun h => go_W _ _ _ _ _ _ hnd
  -- those awake stay so
  have keep : ∀ h, h < sH S → ∀ v, W h = some v → (go S f aw (rl pa pb a n) (W, t, a, 0)).1 h = some v := by
    intro h hh v hv
    rw [hW']
    cases q : tim S f aw (rl pa pb a n) t a h with
    | none => exact hv
    | some t1 =>
      dsimp only
      by_cases c : h ≠ f ∧ aw h = false
      · exfalso
        obtain ⟨-, a', -, ga', t', wa', t1', ht1', -⟩ := h2 h hh c.1 v hv
        have e := rl_one hp (tim_mem.mp ⟨_, ht1'⟩) (tim_mem.mp ⟨_, q⟩)
        subst e
        rw [hG] at ga'
        cases ga'
      · rw [if_neg c]; exact hv
  refine ⟨?_, ?_, ?_, ?_⟩
  · rw [hW']
    cases tim S f aw (rl pa pb a n) t a f with
    | none => exact h1
    | some t1 => dsimp only; rw [if_neg (fun z => z.1 rfl)]; exact h1
  · intro h hh hn t' ht'
    rw [hW'] at ht'
    have old : W h = some t' → aw h = false ∧ ∃ b, b < sH S ∧ (G b || decide (b = a)) = true ∧ ∃ u, (go S f aw (rl pa pb a n) (W, t, a, 0)).1 b = some u ∧ ∃ t1, tim S f aw (rl pa pb b n) u b h = some t1 ∧ t' = t1 + sWk S h := by
      intro hv
      obtain ⟨g1, b, hb, gb, u, wu, t1, g2, g3⟩ := h2 h hh hn t' hv
      exact ⟨g1, b, hb, by rw [gb]; rfl, u, keep b hb u wu, t1, g2, g3⟩
    cases q : tim S f aw (rl pa pb a n) t a h with
    | none => rw [q] at ht'; exact old ht'
    | some t1 =>
      rw [q] at ht'
      dsimp only at ht'
      by_cases c : h ≠ f ∧ aw h = false
      · rw [if_pos c] at ht'
        cases ht'
        exact ⟨c.2, a, ha, by simp, t, keep a ha t hWa, t1, q, rfl⟩
      · rw [if_neg c] at ht'
        exact old ht'
  · intro b hb gb
    rw [Bool.or_eq_true, decide_eq_true_eq] at gb
    rcases gb with gb | rfl
    · obtain ⟨u, wu, g⟩ := h3 b hb gb
      exact ⟨u, keep b hb u wu, fun h hh hn ha2 t1 ht1 => keep h hh _ (g h hh hn ha2 t1 ht1)⟩
    · refine ⟨t, keep b hb t hWa, fun h hh hn ha2 t1 ht1 => ?_⟩
      rw [hW', ht1]
      dsimp only
      rw [if_pos ⟨hn, ha2⟩]
  · intro h hh x
    by_cases c : h ∈ rl pa pb a n ∧ h ≠ f ∧ aw h = true
    · dsimp only
      rw [if_pos c]
      constructor
      · intro q
        cases q
        exact ⟨c.2.1, c.2.2, a, ha, by simp, t, keep a ha t hWa, c.1, rfl⟩
      · rintro ⟨-, -, b, hb, gb, u, wu, hm, rfl⟩
        have e := rl_one hp hm c.1
        subst e
        rw [keep b hb t hWa] at wu
        cases wu
        rfl
    · dsimp only
      rw [if_neg c, h4 h hh x]
      constructor
      · rintro ⟨g1, g2, b, hb, gb, u, wu, hm, rfl⟩
        exact ⟨g1, g2, b, hb, by rw [gb]; rfl, u, keep b hb u wu, hm, rfl⟩
      · rintro ⟨g1, g2, b, hb, gb, u, wu, hm, rfl⟩
        rw [Bool.or_eq_true, decide_eq_true_eq] at gb
        rcases gb with gb | rfl
        · obtain ⟨u2, wu2, -⟩ := h3 b hb gb
          rw [keep b hb u2 wu2] at wu
          cases wu
          exact ⟨g1, g2, b, hb, gb, _, wu2, hm, rfl⟩
        · exact absurd ⟨hm, g1, g2⟩ c
/-- all who are awake went -/
def Fin (S : SP) (n : Nat) (pa pb : Nat → Nat) (f : Nat) (aw : Nat → Bool) (x : (Nat → Option Nat) × (Nat → Option (Nat × Nat))) : Prop := Inv S n pa pb f aw x.1 (fun h => (x.1 h).isSome) x.2
theorem Fin_of {S : SP} {n : Nat} {pa pb : Nat → Nat} {f : Nat} {aw : Nat → Bool} {W : Nat → Option Nat} {G : Nat → Bool} {E : Nat → Option (Nat × Nat)} (hI : Inv S n pa pb f aw W G E) (hG : ∀ h, h < sH S → (W h).isSome = true → G h = true) : Fin S n pa pb f aw (W, E) := by
  obtain ⟨h1, h2, h3, h4⟩ := hI
  have some_of : ∀ {a u : Nat}, W a = some u → (W a).isSome = true := fun h => by rw [h]; rfl
  refine ⟨h1, fun h hh hn t' ht' => ?_, fun a ha ga => h3 a ha (hG a ha ga), fun h hh x => ?_⟩
  · obtain ⟨g1, a, ha, -, u, wu, r⟩ := h2 h hh hn t' ht'
    exact ⟨g1, a, ha, some_of wu, u, wu, r⟩
  · rw [h4 h hh x]
    constructor
    · rintro ⟨g1, g2, b, hb, -, u, wu, r⟩
      exact ⟨g1, g2, b, hb, some_of wu, u, wu, r⟩
    · rintro ⟨g1, g2, b, hb, gb, r⟩
      exact ⟨g1, g2, b, hb, hG b hb gb, r⟩
theorem Fin_sub {S : SP} {n : Nat} {pa pb : Nat → Nat} {f : Nat} {aw : Nat → Bool} {x y : (Nat → Option Nat) × (Nat → Option (Nat × Nat))} (hf : ∀ x y, x < sH S → y < sH S → x ≠ y → 1 ≤ sFar S x y) (hp : Pl (sH S) n pa pb) (hx : Fin S n pa pb f aw x) (hy : Fin S n pa pb f aw y) : ∀ N h, h < sH S → ∀ t', t' < N → x.1 h = some t' → y.1 h = some t'
  | 0, h, _, t', ht, _ => absurd ht (by omega)
  | N + 1, h, hh, t', ht, hv => by
    by_cases e : h = f
    · subst e
      rw [hx.1] at hv
      rw [hy.1]
      exact hv
    · obtain ⟨g1, a, ha, -, t, wt, t1, g2, g3⟩ := hx.2.1 h hh e t' hv
      have hlt := tim_gt hf ha (fun z hz => by obtain ⟨i, i1, -, i3⟩ := rl_mem.mp hz; rw [← i3]; exact (hp.1 i i1).2.1) (rl_self hp) (rl_nd hp n (Nat.le_refl n)) g2
      have ih := Fin_sub hf hp hx hy N a ha t (by omega) wt
      obtain ⟨u, wu, g⟩ := hy.2.2.1 a ha (show (y.1 a).isSome = true by rw [ih]; rfl)
      rw [ih] at wu
      cases wu
      rw [g h hh e g1 t1 g2, g3]
theorem Fin_one {S : SP} {n : Nat} {pa pb : Nat → Nat} {f : Nat} {aw : Nat → Bool} {x y : (Nat → Option Nat) × (Nat → Option (Nat × Nat))} (hf : ∀ x y, x < sH S → y < sH S → x ≠ y → 1 ≤ sFar S x y) (hp : Pl (sH S) n pa pb) (hx : Fin S n pa pb f aw x) (hy : Fin S n pa pb f aw y) : ∀ h, h < sH S → x.1 h = y.1 h ∧ x.2 h = y.2 h := by
  have sub := fun h hh t' => Fin_sub hf hp hx hy (t' + 1) h hh t' (by omega)
  have sub2 := fun h hh t' => Fin_sub hf hp hy hx (t' + 1) h hh t' (by omega)
  have eqW : ∀ h, h < sH S → x.1 h = y.1 h := by
    intro h hh
    cases q : x.1 h with
    | some t' => exact (sub h hh t' q).symm
    | none =>
      cases r : y.1 h with
      | none => rfl
      | some t' => rw [sub2 h hh t' r] at q; cases q
  intro h hh
  refine ⟨eqW h hh, ?_⟩
  have step : ∀ {x y : (Nat → Option Nat) × (Nat → Option (Nat × Nat))}, Fin S n pa pb f aw x → Fin S n pa pb f aw y → (∀ h, h < sH S → x.1 h = y.1 h) → ∀ z, x.2 h = some z → y.2 h = some z := by
    intro x y hx hy e z hz
    obtain ⟨g1, g2, a, ha, ga, t, wt, r⟩ := (hx.2.2.2 h hh z).mp hz
    refine (hy.2.2.2 h hh z).mpr ⟨g1, g2, a, ha, ?_, t, ?_, r⟩
    · show (y.1 a).isSome = true
      rw [← e a ha, wt]; rfl
    · rw [← e a ha]; exact wt
  cases q : x.2 h with
  | some z => exact (step hx hy eqW z q).symm
  | none =>
    cases r : y.2 h with
    | none => rfl
    | some z => rw [step hy hx (fun h hh => (eqW h hh).symm) z r] at q; cases q
/-- the waking itself -/
noncomputable def fw (S : SP) (n : Nat) (pa pb : Nat → Nat) (f : Nat) (aw : Nat → Bool) : (Nat → Option Nat) × (Nat → Option (Nat × Nat)) := Classical.epsilon (fun x => Fin S n pa pb f aw x)
theorem fw_eq {S : SP} {n : Nat} {pa pb : Nat → Nat} {f : Nat} {aw : Nat → Bool} {x : (Nat → Option Nat) × (Nat → Option (Nat × Nat))} (hf : ∀ x y, x < sH S → y < sH S → x ≠ y → 1 ≤ sFar S x y) (hp : Pl (sH S) n pa pb) (hx : Fin S n pa pb f aw x) : ∀ h, h < sH S → x.1 h = (fw S n pa pb f aw).1 h ∧ x.2 h = (fw S n pa pb f aw).2 h :=
  Fin_one hf hp hx (Classical.epsilon_spec (p := fun x => Fin S n pa pb f aw x) ⟨x, hx⟩)
/-- when what is kept in a HOUSE is at the FIRE -/
def arr (S : SP) (x : (Nat → Option Nat) × (Nat → Option (Nat × Nat))) (fire h : Nat) : Option Nat := match x.1 h with
  | some t => some (t + sFar S h fire)
  | none => match x.2 h with
    | some (t, q) => some (t + sFar S q fire)
    | none => none
