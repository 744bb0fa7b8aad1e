/-! THE REFERENCE: waking -/
/-- only these arrays have changed -/
def frA (ks : List Nat) (σ τ : nh_S) : Prop := τ.1 = σ.1 ∧ ∀ k, k ∉ ks → τ.2.1 k = σ.2.1 k
theorem frA.rf (ks : List Nat) (σ : nh_S) : frA ks σ σ := ⟨rfl, fun _ _ => rfl⟩
theorem frA.tr {ks : List Nat} {σ τ υ : nh_S} (h : frA ks σ τ) (g : frA ks τ υ) : frA ks σ υ := ⟨g.1.trans h.1, fun k hk => (g.2 k hk).trans (h.2 k hk)⟩
theorem frA.wa {ks : List Nat} {σ τ : nh_S} (h : frA ks σ τ) {k : Nat} (i : Nat) (x : Int32) (hk : k ∈ ks) : frA ks σ (nh_wa τ k i x) := ⟨h.1, fun j hj => by rw [wa_ne τ i x (fun e => hj (by rw [e]; exact hk))]; exact h.2 j hj⟩
theorem frA.mono {ks ls : List Nat} {σ τ : nh_S} (h : frA ks σ τ) (hs : ∀ k ∈ ks, k ∈ ls) : frA ls σ τ := ⟨h.1, fun k hk => h.2 k (fun q => hk (hs k q))⟩
theorem frA.pr {ks : List Nat} {σ τ : nh_S} (h : frA ks σ τ) (hk : ∀ k ∈ [1, 2, 3, 6, 7, 8, 9, 10, 11, 12, 13, 14, 26], k ∉ ks) : pr σ τ := by
  have w := fun k q => h.2 k (hk k q)
  refine ⟨⟨w 1 (by decide), w 2 (by decide), w 3 (by decide), w 6 (by decide), w 7 (by decide), w 8 (by decide), w 9 (by decide), w 10 (by decide), w 11 (by decide), w 12 (by decide), w 13 (by decide), w 14 (by decide), w 26 (by decide)⟩, ?_, ?_, ?_, ?_, ?_⟩ <;> rw [h.1]
theorem r_begin {f : Nat} (hf : f < 9) {σ : nh_S} {Q : Option Value → nh_S → Prop} (hQ : ∀ τ, frA [15, 16] σ τ → (∀ h, h < 9 → τ.2.1 15 h = ot (if h = f then some 0 else none)) → (∀ h, h < 9 → τ.2.1 16 h = ot none) → Q none τ) : nh_E kX9_begin 0 [some (.ref 0), some (.int (nI f)), none] [] σ Q := by
  refine sg_X9_begin_0 _ ?_
  refine nh_loop (α := nh_S) (fun i τ => nh_E kX9_begin 2 [some (.ref 0), some (.int (nI f)), some (.int (nI i))] [] τ Q) (fun n τ => frA [15, 16] σ τ ∧ (∀ h, h < n → τ.2.1 15 h = ot (if h = f then some 0 else none)) ∧ (∀ h, h < n → τ.2.1 16 h = ot none)) 9 ?_ ?_ 9 0 σ rfl ⟨frA.rf _ _, fun h hh => by omega, fun h hh => by omega⟩
  · rintro τ ⟨h1, h2, h3⟩
    exact sg_X9_begin_2 _ _ (pk_le 9 9 (fun _ => hQ τ h1 h2 h3) (fun c => by omega))
  · rintro i τ hi ⟨h1, h2, h3⟩ ih
    refine sg_X9_begin_2 _ _ (pk_le 9 i (fun c => by omega) (fun c => ?_))
    refine ⟨pk_in i 9 hi, ?_⟩
    rw [nI_1, pk_cl i rfl (by omega)]
    refine ih _ ⟨(h1.wa _ _ (by decide)).wa _ _ (by decide), fun h hh => ?_, fun h hh => ?_⟩
    · rw [wa_ne _ _ _ (show 15 ≠ 16 by decide), bs_get]
      by_cases e : h = i
      · subst e
        rw [if_pos ⟨rfl, rfl⟩]
        by_cases e2 : h = f
        · subst e2; simp; rfl
        · rw [if_neg e2, if_neg (by rw [nI_eq (by omega) (by omega)]; exact e2)]
          rfl
      · rw [if_neg (fun z => e z.2)]
        exact h2 h (by omega)
    · rw [bs_get]
      by_cases e : h = i
      · rw [if_pos ⟨rfl, e⟩]; rfl
      · rw [if_neg (fun z => e z.2), wa_ne _ _ _ (show 16 ≠ 15 by decide)]
        exact h3 h (by omega)
theorem go_take {S : SP} {f : Nat} {aw : Nat → Bool} {L : List Nat} {x : (Nat → Option Nat) × Nat × Nat × Nat} {k b : Nat} (hb : L[k]? = some b) : go S f aw (L.take (k + 1)) x = gst S f aw (go S f aw (L.take k) x) b := by
  rw [List.take_add_one, hb]
  exact go_app S f aw (L.take k) b x
theorem ot_nn {t : Nat} (ht : t < 2 ^ 31) : ¬ ot (some t) < 0 := nI_pos ht
theorem ot_neg : ot none < 0 := by decide
set_option maxHeartbeats 1000000 in
theorem r_goRound {S : SP} {σ : nh_S} (hR : RR σ S) (hW : WF S) {a t0 fire f awm : Nat} {L : List Nat} {W : Nat → Option Nat} (ha : a < sH S) (hfi : fire < sH S) (hf : f < sH S) (haw : awm < 2 ^ 31) (hL : ∀ x ∈ L, x < sH S) (hlen : L.length ≤ 20) (h26 : σ.1 0 26 = nI L.length) (h17 : ∀ k b, L[k]? = some b → σ.2.1 17 k = nI b) (ht0 : t0 ≤ 1000000) (h15 : ∀ h, h < 9 → σ.2.1 15 h = ot (W h)) {Q : Option Value → nh_S → Prop}
    (hQ : ∀ τ, frA [15, 16] σ τ → (∀ h, h < 9 → τ.2.1 15 h = ot ((go S f awm.testBit L (W, t0, a, 0)).1 h)) → (∀ h, h < sH S → τ.2.1 16 h = if h ∈ L ∧ h ≠ f ∧ awm.testBit h = true then nI ((rend S f awm.testBit L t0 a).1 + sFar S (rend S f awm.testBit L t0 a).2 fire) else σ.2.1 16 h) → Q none τ) :
    nh_E kX9_goRound 0 [some (.ref 0), some (.int (nI a)), some (.int (nI t0)), some (.int (nI fire)), some (.int (nI f)), some (.int (nI awm)), none, none, none, none] [] σ Q := by
  have h9 := hW.1.1
  have hfar : ∀ x y, x < sH S → y < sH S → sFar S x y ≤ 500 := fun x y hx hy => (hW.1.2.2.2.2 x y hx hy).1
  have hwk : ∀ h, h < sH S → sWk S h ≤ 60 ∧ sKy S h ≤ 60 := fun h hh => ⟨(hW.1.2.2.2.1 h hh).1, (hW.1.2.2.2.1 h hh).2.1⟩
  have bd : ∀ k, (go S f awm.testBit (L.take k) ((fun _ => none), t0, a, 0)).2.1 ≤ t0 + 560 * (L.take k).length ∧ (go S f awm.testBit (L.take k) ((fun _ => none), t0, a, 0)).2.2.1 < sH S ∧ (∀ h v, (go S f awm.testBit (L.take k) ((fun _ => none), t0, a, 0)).1 h = some v → v ≤ 2000000) ∧ (go S f awm.testBit (L.take k) ((fun _ => none), t0, a, 0)).2.2.2 < 2 ^ sH S := fun k => go_bd hfar hwk _ _ _ _ _ 2000000 (fun x hx => hL x (List.mem_of_mem_take hx)) ha (by have := (List.take_sublist k L).length_le; omega) (fun h v hv => by cases hv) (Nat.two_pow_pos _)
  have bt : ∀ k, (go S f awm.testBit (L.take k) (W, t0, a, 0)).2.1 ≤ t0 + 11200 ∧ (go S f awm.testBit (L.take k) (W, t0, a, 0)).2.2.1 < sH S := by
    intro k
    obtain ⟨e1, e2⟩ := go_end (S := S) (f := f) (aw := awm.testBit) (L.take k) W (fun _ => none) t0 a 0 0
    rw [e1, e2]
    have := (List.take_sublist k L).length_le
    have := (bd k).1
    exact ⟨by omega, (bd k).2.1⟩
  have bk : ∀ k, (go S f awm.testBit (L.take k) (W, t0, a, 0)).2.2.2 < 2 ^ 9 := by
    intro k
    have hlt : (go S f awm.testBit (L.take k) (W, t0, a, 0)).2.2.2 < 2 ^ sH S := by
      apply Nat.lt_pow_two_of_testBit
      intro i hi
      rw [go_K, Nat.zero_testBit, Bool.false_or, decide_eq_false]
      rintro ⟨q, -⟩
      have := hL i (List.mem_of_mem_take q)
      omega
    exact Nat.lt_of_lt_of_le hlt (pw_le h9)
  refine sg_X9_goRound_0 _ _ _ _ _ ?_
  -- behind the round: what was taken arrives
  have second : ∀ τ, frA [15] σ τ → (∀ h, h < 9 → τ.2.1 15 h = ot ((go S f awm.testBit L (W, t0, a, 0)).1 h)) → nh_E kX9_goRound 125 [some (.ref 0), none, none, some (.int (nI fire)), none, none, some (.int (nI (go S f awm.testBit L (W, t0, a, 0)).2.1)), some (.int (nI (go S f awm.testBit L (W, t0, a, 0)).2.2.1)), some (.int (nI (go S f awm.testBit L (W, t0, a, 0)).2.2.2)), some (.int (nI 0))] [] τ Q := by
    intro τ hτ h15'
    have bt9 := bt L.length
    have bk9 := bk L.length
    rw [List.take_length] at bt9 bk9
    obtain ⟨e1, e2⟩ := go_end (S := S) (f := f) (aw := awm.testBit) L W (fun _ => none) t0 a 0 0
    refine nh_loop (α := nh_S) (fun i υ => nh_E kX9_goRound 125 [some (.ref 0), none, none, some (.int (nI fire)), none, none, some (.int (nI (go S f awm.testBit L (W, t0, a, 0)).2.1)), some (.int (nI (go S f awm.testBit L (W, t0, a, 0)).2.2.1)), some (.int (nI (go S f awm.testBit L (W, t0, a, 0)).2.2.2)), some (.int (nI i))] [] υ Q) (fun n υ => frA [16] τ υ ∧ (∀ h, h < n → υ.2.1 16 h = if h ∈ L ∧ h ≠ f ∧ awm.testBit h = true then nI ((rend S f awm.testBit L t0 a).1 + sFar S (rend S f awm.testBit L t0 a).2 fire) else σ.2.1 16 h) ∧ ∀ h, n ≤ h → υ.2.1 16 h = σ.2.1 16 h) (sH S) ?_ ?_ (sH S) 0 τ (by omega) ⟨frA.rf _ _, fun h hh => by omega, fun h _ => by rw [hτ.2 16 (by decide)]⟩
    · rintro υ ⟨u1, u2, u3⟩
      have a9 : υ.2.1 9 0 = nI (sH S) := by rw [u1.2 9 (by decide), hτ.2 9 (by decide)]; exact hR.1.1
      refine sg_X9_goRound_125 _ _ _ _ _ (pk_le (sH S) (sH S) (fun _ => ?_) (fun c => by omega) a9 rfl)
      refine hQ υ ((hτ.mono (by decide)).tr (u1.mono (by decide))) (fun h hh => by rw [u1.2 15 (by decide)]; exact h15' h hh) u2
    · rintro i υ hi ⟨u1, u2, u3⟩ ih
      have a9 : υ.2.1 9 0 = nI (sH S) := by rw [u1.2 9 (by decide), hτ.2 9 (by decide)]; exact hR.1.1
      have a14 : υ.2.1 14 = σ.2.1 14 := by rw [u1.2 14 (by decide), hτ.2 14 (by decide)]
      refine sg_X9_goRound_125 _ _ _ _ _ (pk_le (sH S) i (fun c => by omega) (fun c => ?_) a9 rfl)
      have e9 : (9 : Int32) * nI (go S f awm.testBit L (W, t0, a, 0)).2.2.1 + nI fire = nI (9 * (go S f awm.testBit L (W, t0, a, 0)).2.2.1 + fire) := by rw [show (9 : Int32) = nI 9 from rfl, pk_mul, nI_add]
      rw [e9, nI_1, pk_cl i rfl (by omega), pk_cl (9 * (go S f awm.testBit L (W, t0, a, 0)).2.2.1 + fire) rfl (by omega), a14, hR.1.2.2.2.1 _ _ bt9.2 hfi, nI_add]
      refine ⟨⟨fun _ => pk_in i 9 (by omega), fun _ => pk_in (9 * (go S f awm.testBit L (W, t0, a, 0)).2.2.1 + fire) 81 (by omega)⟩, pk_in i 9 (by omega), ?_⟩
      refine ih _ ⟨u1.wa _ _ (by decide), fun h hh => ?_, fun h hh => ?_⟩
      · rw [bs_get]
        by_cases e : h = i
        · subst e
          rw [if_pos ⟨rfl, rfl⟩]
          have hk : nh_hs (nI (go S f awm.testBit L (W, t0, a, 0)).2.2.2) (nI h) ↔ (h ∈ L ∧ h ≠ f ∧ awm.testBit h = true) := by
            rw [bs_hs (by omega) (by omega), go_K, Nat.zero_testBit, Bool.false_or, decide_eq_true_eq]
          by_cases c2 : h ∈ L ∧ h ≠ f ∧ awm.testBit h = true
          · rw [if_pos c2, if_pos (hk.mpr c2)]
            unfold rend
            rw [← e1, ← e2]
          · rw [if_neg c2, if_neg (fun q => c2 (hk.mp q)), u3 h (Nat.le_refl h)]
        · rw [if_neg (fun z => e z.2)]
          exact u2 h (by omega)
      · rw [bs_get, if_neg (by omega)]
        exact u3 h (by omega)
  refine nh_loop (α := nh_S) (fun i τ => nh_E kX9_goRound 12 [some (.ref 0), none, none, some (.int (nI fire)), some (.int (nI f)), some (.int (nI awm)), some (.int (nI (go S f awm.testBit (L.take i) (W, t0, a, 0)).2.1)), some (.int (nI (go S f awm.testBit (L.take i) (W, t0, a, 0)).2.2.1)), some (.int (nI (go S f awm.testBit (L.take i) (W, t0, a, 0)).2.2.2)), some (.int (nI i))] [] τ Q) (fun n τ => frA [15] σ τ ∧ ∀ h, h < 9 → τ.2.1 15 h = ot ((go S f awm.testBit (L.take n) (W, t0, a, 0)).1 h)) L.length ?_ ?_ L.length 0 σ (by omega) ⟨frA.rf _ _, h15⟩
  · rintro τ ⟨t1, t2⟩
    rw [List.take_length] at t2
    have a26 : τ.1 0 26 = nI L.length := by rw [t1.1]; exact h26
    refine sg_X9_goRound_12 _ _ _ _ _ _ _ (pk_le L.length L.length (fun _ => ?_) (fun c => by omega) a26 rfl)
    have := second τ t1 t2
    rw [List.take_length]
    exact this
  · rintro i τ hi ⟨t1, t2⟩ ih
    obtain ⟨b, hb⟩ : ∃ b, L[i]? = some b := ⟨_, List.getElem?_eq_getElem hi⟩
    have hbL : b < sH S := hL b (List.mem_of_getElem? hb)
    have a26 : τ.1 0 26 = nI L.length := by rw [t1.1]; exact h26
    have a17 : τ.2.1 17 i = nI b := by rw [t1.2 17 (by decide)]; exact h17 i b hb
    have a14 : τ.2.1 14 = σ.2.1 14 := t1.2 14 (by decide)
    have a3 : τ.2.1 3 = σ.2.1 3 := t1.2 3 (by decide)
    have btx := bt i
    have bkx := bk i
    have et := go_take (S := S) (f := f) (aw := awm.testBit) (x := (W, t0, a, 0)) hb
    rw [et] at ih
    generalize go S f awm.testBit (L.take i) (W, t0, a, 0) = x at ih t2 btx bkx
    obtain ⟨W1, t, p, k⟩ := x
    dsimp only at ih t2 btx bkx ⊢
    have e9 : (9 : Int32) * nI p + nI b = nI (9 * p + b) := by rw [show (9 : Int32) = nI 9 from rfl, pk_mul, nI_add]
    have e6 : (6 : Int32) * nI b = nI (6 * b) := by rw [show (6 : Int32) = nI 6 from rfl, pk_mul]
    have e61 : nI (6 * b) + 1 = nI (6 * b + 1) := nI_1 _
    obtain ⟨hw1, hw2, -⟩ := hR.1.2.2.2.2 b hbL
    have hf1 := hfar p b btx.2 hbL
    obtain ⟨hk1, hk2⟩ := hwk b hbL
    refine sg_X9_goRound_12 _ _ _ _ _ _ _ (pk_le L.length i (fun c => by omega) (fun c => ?_) a26 rfl)
    rw [pk_cl i rfl (by omega), a17, a14, a3, e9, e6, e61, pk_cl (9 * p + b) rfl (by omega), pk_cl (6 * b) rfl (by omega), pk_cl (6 * b + 1) rfl (by omega), pk_cl b rfl (by omega), hR.1.2.2.2.1 p b btx.2 hbL, hw1, hw2, nI_add, nI_add, nI_add, nI_1]
    refine ⟨pk_in i 20 (by omega), pk_in (9 * p + b) 81 (by omega), ?_⟩
    have hh : nh_hs (nI awm) (nI b) ↔ awm.testBit b = true := bs_hs haw (by omega)
    have hE : nI b = nI f ↔ b = f := nI_eq (by omega) (by omega)
    unfold gst at ih
    dsimp only at ih
    refine ⟨fun c1 => ⟨fun c2 => ?_, fun c2 => ?_⟩, fun c1 => ?_⟩
    · rw [if_pos (hE.mp c2)] at ih
      exact ih τ ⟨t1, t2⟩
    · have nf : ¬ b = f := fun q => c2 (hE.mpr q)
      have na : ¬ awm.testBit b = true := fun q => c1 ⟨c2, hh.mpr q⟩
      rw [if_neg nf, if_neg na] at ih
      refine ⟨pk_in (6 * b) 108 (by omega), pk_in b 9 (by omega), ?_⟩
      refine ih _ ⟨t1.wa _ _ (by decide), fun h hh2 => ?_⟩
      rw [bs_get]
      dsimp only
      unfold upO
      by_cases e : h = b
      · rw [if_pos ⟨rfl, e⟩, if_pos e]; rfl
      · rw [if_neg (fun z => e z.2), if_neg e]
        exact t2 h hh2
    · have nf : ¬ b = f := fun q => c1.1 (hE.mpr q)
      rw [if_neg nf, if_pos (hh.mp c1.2)] at ih
      refine ⟨pk_in (6 * b + 1) 108 (by omega), ?_⟩
      rw [bs_shl (by omega), fa_or]
      exact ih τ ⟨t1, t2⟩
