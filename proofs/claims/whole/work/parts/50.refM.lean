/-! THE REFERENCE: the crier -/
set_option maxHeartbeats 1000000 in
theorem r_rev {σ : nh_S} {r : Nat → Nat} {i n : Nat} (hi : i < n) (hn : n ≤ 9) (h22 : ∀ x, x < n → σ.2.1 22 x = nI (r x)) {Q : Option Value → nh_S → Prop} (hQ : ∀ τ, frA [22] σ τ → (∀ x, x < n → τ.2.1 22 x = nI (rvs r i n x)) → Q (some (.int 1)) τ) :
    nh_E kX9_nextRound 107 [some (.ref 0), none, none, none, some (.int (nI (i + 1))), some (.int (nI (n - 1)))] [] σ Q := by
  have main : ∀ N s τ, n < N + s → i + 1 + 2 * s ≤ n → frA [22] σ τ → (∀ x, x < n → τ.2.1 22 x = nI (if (i < x ∧ x < i + 1 + s) ∨ n - 1 - s < x then r (i + n - x) else r x)) → nh_E kX9_nextRound 107 [some (.ref 0), none, none, none, some (.int (nI (i + 1 + s))), some (.int (nI (n - 1 - s)))] [] τ Q := by
    intro N
    induction N with
    | zero => intro s τ h1 h2; omega
    | succ N ih =>
      intro s τ h1 h2 hf hx
      refine sg_X9_nextRound_107 _ _ (pk_le (n - 1 - s) (i + 1 + s) (fun c => ?_) (fun c => ⟨pk_in (i + 1 + s) 9 (by omega), pk_in (n - 1 - s) 9 (by omega), ?_⟩))
      · refine hQ τ hf (fun x h => ?_)
        rw [hx x h]
        unfold rvs
        by_cases c1 : i < x ∧ x < n
        · rw [if_pos c1]
          by_cases c2 : (i < x ∧ x < i + 1 + s) ∨ n - 1 - s < x
          · rw [if_pos c2]
          · rw [if_neg c2, show i + n - x = x by omega]
        · rw [if_neg c1, if_neg (by omega)]
      · have e1 : nI (n - 1 - s) + (-1) = nI (n - 1 - (s + 1)) := by
          have := pk_m1 (n - 1 - (s + 1))
          rw [show n - 1 - (s + 1) + 1 = n - 1 - s by omega] at this
          exact this
        rw [nI_1, e1, pk_cl (i + 1 + s) rfl (by omega), pk_cl (n - 1 - s) rfl (by omega)]
        refine ih (s + 1) _ (by omega) (by omega) ((hf.wa _ _ (by decide)).wa _ _ (by decide)) (fun x h => ?_)
        rw [bs_get, bs_get]
        by_cases c1 : x = n - 1 - s
        · rw [if_pos ⟨rfl, c1⟩, hx (i + 1 + s) (by omega), if_neg (by omega), if_pos (by omega), show i + n - x = i + 1 + s by omega]
        · rw [if_neg (fun z => c1 z.2)]
          by_cases c2 : x = i + 1 + s
          · rw [if_pos ⟨rfl, c2⟩, hx (n - 1 - s) (by omega), if_neg (by omega), if_pos (by omega), show i + n - x = n - 1 - s by omega]
          · rw [if_neg (fun z => c2 z.2), hx x h]
            by_cases c3 : (i < x ∧ x < i + 1 + s) ∨ n - 1 - s < x
            · rw [if_pos c3, if_pos (by omega)]
            · rw [if_neg c3, if_neg (by omega)]
  exact main (n + 1) 0 σ (by omega) (by omega) (frA.rf _ _) (fun x h => by rw [if_neg (by omega)]; exact h22 x h)
set_option maxHeartbeats 1000000 in
theorem r_nextRound {σ : nh_S} {n : Nat} {r : Nat → Nat} (hn : n ≤ 9) (hr : ∀ x, x < n → r x < 9) (h34 : σ.1 0 34 = nI n) (h22 : ∀ x, x < n → σ.2.1 22 x = nI (r x)) {Q : Option Value → nh_S → Prop} (hQ0 : nx n r = none → Q (some (.int 0)) σ) (hQ1 : ∀ r', nx n r = some r' → ∀ τ, frA [22] σ τ → (∀ x, x < n → τ.2.1 22 x = nI (r' x)) → Q (some (.int 1)) τ) :
    nh_E kX9_nextRound 0 [some (.ref 0), none, none, none, none, none] [] σ Q := by
  refine sg_X9_nextRound_0 ?_
  rw [h34]
  -- the place with which to change
  have second : ∀ i, i + 1 < n → dsc r (n - 1) = i + 1 → ∀ j, j + 1 ≤ n → fnd r i n = fnd r i (j + 1) → nh_E kX9_nextRound 47 [some (.ref 0), some (.int (nI i)), some (.int (nI j)), none, none, none] [] σ Q := by
    intro i hi hd j
    have k2 := fnd_gt (dsc_up hd) hi
    have hri := hr i (by omega)
    have fin : ∀ j, j + 1 ≤ n → fnd r i n = j → nh_E kX9_nextRound 107 [some (.ref 0), none, none, none, some (.int (nI i + 1)), some (.int (σ.1 0 34 - 1))] [] (nh_wa (nh_wa σ 22 i (nI (r j))) 22 j (nI (r i))) Q := by
      intro j hj e
      have e1 : nI n - 1 = nI (n - 1) := by
        have := nI_pred (n - 1)
        rw [show n - 1 + 1 = n by omega] at this
        exact this
      rw [h34, e1, nI_1]
      refine r_rev (r := sw r i j) (by omega) hn (fun x hx => ?_) (fun τ t1 t2 => ?_)
      · rw [bs_get, bs_get]
        unfold sw
        by_cases c1 : x = j
        · rw [if_pos ⟨rfl, c1⟩, if_neg (by omega), if_pos c1]
        · rw [if_neg (fun z => c1 z.2)]
          by_cases c2 : x = i
          · rw [if_pos ⟨rfl, c2⟩, if_pos c2]
          · rw [if_neg (fun z => c2 z.2), if_neg c2, if_neg c1]
            exact h22 x hx
      · refine hQ1 _ ?_ τ ((((frA.rf [22] σ).wa _ _ (by decide)).wa _ _ (by decide)).tr t1) t2
        unfold nx
        rw [hd]
        dsimp only
        rw [e]
    induction j with
    | zero =>
      intro hj e
      refine sg_X9_nextRound_47 _ _ ⟨pk_in 0 9 (by omega), pk_in i 9 (by omega), ?_⟩
      rw [pk_cl 0 rfl (by omega), pk_cl i rfl (by omega), h22 0 (by omega), h22 i (by omega)]
      have hrj := hr 0 (by omega)
      refine pk_le (r i) (r 0) (fun c => ?_) (fun c => ?_)
      · refine fin 0 hj ?_
        rw [e, fnd, if_neg (by omega)]
      · exfalso
        rw [e, fnd, if_pos c, fnd] at k2
        omega
    | succ j ih =>
      intro hj e
      refine sg_X9_nextRound_47 _ _ ⟨pk_in (j + 1) 9 (by omega), pk_in i 9 (by omega), ?_⟩
      rw [pk_cl (j + 1) rfl (by omega), pk_cl i rfl (by omega), h22 (j + 1) (by omega), h22 i (by omega)]
      have hrj := hr (j + 1) (by omega)
      refine pk_le (r i) (r (j + 1)) (fun c => ?_) (fun c => ?_)
      · refine fin (j + 1) hj ?_
        rw [e, fnd, if_neg (by omega)]
      · rw [pk_m1]
        refine ih (by omega) ?_
        rw [e, fnd, if_pos c]
  by_cases h0 : n = 0
  · subst h0
    exact sg_X9_nextRound_7 _ ⟨fun _ => ⟨fun c => absurd c (by decide), fun _ => hQ0 rfl⟩, fun c => absurd (show nI 0 - 2 < 0 by decide) c⟩
  · have main : ∀ m, m ≤ n - 1 → dsc r (n - 1) = dsc r m → nh_E kX9_nextRound 7 [some (.ref 0), some (.int (nI m + (-1))), none, none, none, none] [] σ Q := by
      intro m
      induction m with
      | zero =>
        intro _ e
        refine sg_X9_nextRound_7 _ ⟨fun _ => ⟨fun c => absurd c (by decide), fun _ => hQ0 ?_⟩, fun c => absurd (show nI 0 + (-1) < 0 by decide) c⟩
        unfold nx
        rw [e]
        rfl
      | succ m ih =>
        intro hm e
        rw [pk_m1]
        refine sg_X9_nextRound_7 _ ⟨fun c => absurd c (nI_pos (by omega)), fun _ => ?_⟩
        rw [nI_1, pk_cl m rfl (by omega), pk_cl (m + 1) rfl (by omega), h22 m (by omega), h22 (m + 1) (by omega)]
        have h1 := hr m (by omega)
        have h2 := hr (m + 1) (by omega)
        refine ⟨pk_in m 9 (by omega), pk_in (m + 1) 9 (by omega), pk_le (r m) (r (m + 1)) (fun c => ⟨fun _ => ?_, fun c2 => absurd (nI_pos' (by omega)) c2⟩) (fun c => ?_)⟩
        · have hd : dsc r (n - 1) = m + 1 := by rw [e, dsc, if_neg (by omega)]
          have e1 : nI n - 1 = nI (n - 1) := by
            have := nI_pred (n - 1)
            rw [show n - 1 + 1 = n by omega] at this
            exact this
          rw [h34, e1]
          refine second m (by omega) hd (n - 1) (by omega) ?_
          rw [show n - 1 + 1 = n by omega]
        · refine ih (by omega) ?_
          rw [e, dsc, if_pos c]
    have e2 : nI n - 2 = nI (n - 1) + (-1) := by
      obtain ⟨k, rfl⟩ : ∃ k, n = k + 1 := ⟨n - 1, by omega⟩
      rw [show k + 1 - 1 = k by omega, ← nI_1, Int32.sub_eq_add_neg, Int32.add_assoc]
      rfl
    rw [e2]
    exact main (n - 1) (Nat.le_refl _) rfl
/-- a round of FIRST alone -/
def okr (S : SP) (f n : Nat) (r : Nat → Nat) : Prop := (∀ i, i < n → r i < sH S ∧ r i ≠ f) ∧ ∀ i j, i < n → j < n → r i = r j → i = j
theorem okr_Pl {S : SP} {f n : Nat} {r : Nat → Nat} (hf : f < sH S) (h : okr S f n r) : Pl (sH S) n (fun _ => f) r := ⟨fun i hi => ⟨hf, (h.1 i hi).1, fun e => (h.1 i hi).2 e.symm⟩, h.2⟩
theorem okr_nx {S : SP} {f n : Nat} {r r' : Nat → Nat} (h : okr S f n r) (he : nx n r = some r') : okr S f n r' := by
  obtain ⟨π, p1, p2⟩ := nx_perm he
  refine ⟨fun i hi => ?_, fun i j hi hj e => ?_⟩
  · rw [(p1 i hi).2]
    exact h.1 _ (p1 i hi).1
  · rw [(p1 i hi).2, (p1 j hj).2] at e
    exact p2 i j hi hj (h.2 _ _ (p1 i hi).1 (p1 j hj).1 e)
theorem rl_all (f : Nat) (r : Nat → Nat) : ∀ n, rl (fun _ => f) r f n = (List.range n).map r
  | 0 => rfl
  | n + 1 => by rw [rl, if_pos rfl, rl_all f r n, List.range_succ, List.map_append]; rfl
theorem rl_no {f a : Nat} (h : a ≠ f) (r : Nat → Nat) : ∀ n, rl (fun _ => f) r a n = []
  | 0 => rfl
  | n + 1 => by rw [rl, if_neg (fun e => h e.symm), rl_no h r n]
noncomputable def fwQ (S : SP) (n : Nat) (r : Nat → Nat) (f awm : Nat) : (Nat → Option Nat) × (Nat → Option (Nat × Nat)) := fw S n (fun _ => f) r f awm.testBit
noncomputable def cmQ (S : SP) (n : Nat) (r : Nat → Nat) (f awm fire p : Nat) : Option Nat := arr S (fwQ S n r f awm) fire (sKp S p)
noncomputable def evQ (S : SP) (f fire n : Nat) (r : Nat → Nat) : Nat := (stO S (cmQ S n r f (sAw S) fire) (full S)).getD 500
theorem Fin_of2 {S : SP} {n : Nat} {pa pb : Nat → Nat} {f : Nat} {aw : Nat → Bool} {W : Nat → Option Nat} {G : Nat → Bool} {E : Nat → Option (Nat × Nat)} (hI : Inv S n pa pb f aw W G E) (hG : ∀ h, h < sH S → (W h).isSome = true → G h = true ∨ rl pa pb h n = []) : Fin S n pa pb f aw (W, E) := by
  obtain ⟨h1, h2, h3, h4⟩ := hI
  have some_of : ∀ {a u : Nat}, W a = some u → (W a).isSome = true := fun h => by rw [h]; rfl
  refine ⟨h1, fun h hh hn t' ht' => ?_, fun a ha ga => ?_, fun h hh x => ?_⟩
  · obtain ⟨g1, a, ha, -, u, wu, r⟩ := h2 h hh hn t' ht'
    exact ⟨g1, a, ha, some_of wu, u, wu, r⟩
  · rcases hG a ha ga with q | q
    · exact h3 a ha q
    · obtain ⟨t, ht⟩ := Option.isSome_iff_exists.mp ga
      refine ⟨t, ht, fun h _ _ _ t1 ht1 => ?_⟩
      rw [q] at ht1
      simp [tim] at ht1
  · rw [h4 h hh x]
    constructor
    · rintro ⟨g1, g2, b, hb, -, u, wu, r⟩
      exact ⟨g1, g2, b, hb, some_of wu, u, wu, r⟩
    · rintro ⟨g1, g2, b, hb, gb, u, wu, hm, r⟩
      rcases hG b hb gb with q | q
      · exact ⟨g1, g2, b, hb, q, u, wu, hm, r⟩
      · rw [q] at hm; cases hm
set_option maxHeartbeats 1000000 in
theorem r_cried {S : SP} {σ : nh_S} (hR : RR σ S) (hW : WF S) {fire f n : Nat} {r : Nat → Nat} (hfi : fire < sH S) (hf : f < sH S) (hn : n ≤ 9) (hok : okr S f n r) (h34 : σ.1 0 34 = nI n) (h22 : ∀ x, x < n → σ.2.1 22 x = nI (r x)) {Q : Option Value → nh_S → Prop}
    (hQ : ∀ τ, frB [15, 16, 17, 18, 19, 20, 21] [26, 31] σ τ → evQ S f fire n r ≤ 1000720 → Q (some (.int (nI (evQ S f fire n r)))) τ) :
    nh_E kX9_cried 0 [some (.ref 0), some (.int (nI fire)), some (.int (nI f)), none] [] σ Q := by
  have h9 := hW.1.1
  have h12 := hW.1.2.1
  have hpl := okr_Pl hf hok
  have hfar : ∀ x y, x < sH S → y < sH S → sFar S x y ≤ 500 := fun x y hx hy => (hW.1.2.2.2.2 x y hx hy).1
  have hwk : ∀ h, h < sH S → sWk S h ≤ 60 ∧ sKy S h ≤ 60 := fun h hh => ⟨(hW.1.2.2.2.1 h hh).1, (hW.1.2.2.2.1 h hh).2.1⟩
  have hll : (rl (fun _ => f) r f n).length = n := by rw [rl_all, List.length_map, List.length_range]
  have hgl : ∀ x ∈ rl (fun _ => f) r f n, x < sH S := fun x hx => by
    obtain ⟨i, i1, -, i3⟩ := rl_mem.mp hx
    rw [← i3]
    exact (hpl.1 i i1).2.1
  refine sg_X9_cried_0 _ _ ?_
  refine r_begin (by omega) (fun τ t1 t2 t3 => ⟨rfl, ?_⟩)
  have t34 : τ.1 0 34 = nI n := by rw [t1.1]; exact h34
  dsimp only
  rw [t34]
  refine nh_loop (α := nh_S) (fun k υ => nh_E kX9_cried 15 [some (.ref 0), some (.int (nI fire)), some (.int (nI f)), some (.int (nI k))] [] υ Q) (fun k υ => frB [15, 16, 17] [26] σ υ ∧ υ.1 0 26 = nI n ∧ (∀ h, h < 9 → υ.2.1 15 h = ot (if h = f then some 0 else none)) ∧ (∀ h, h < 9 → υ.2.1 16 h = ot none) ∧ ∀ x, x < k → υ.2.1 17 x = nI (r x)) n ?_ ?_ n 0 _ (by omega) ⟨((t1.B [26]).mono (by decide) (by decide)).si _ (by decide), by rw [bs_geti, if_pos ⟨rfl, rfl⟩], t2, t3, fun x hx => by omega⟩
  · rintro υ ⟨u1, u2, u3, u4, u5⟩
    have u34 : υ.1 0 34 = nI n := by rw [u1.2 34 (by decide)]; exact h34
    refine sg_X9_cried_15 _ _ _ (pk_le n n (fun _ => ?_) (fun c => by omega) u34 rfl)
    have hpu : pr σ υ := u1.pr (by decide) (by decide)
    have hRu := hR.pr h12 hpu
    rw [hRu.2.1.2.1]
    refine r_goRound (L := rl (fun _ => f) r f n) (W := fun h => if h = f then some 0 else none) (t0 := 0) hRu hW hf hfi hf (aw_lt hW) hgl (by omega) (by rw [hll]; exact u2) (fun k b hb => ?_) (by omega) u3 (fun ρ r1 r2 r3 => ⟨rfl, ?_⟩)
    · rw [rl_all, List.getElem?_map] at hb
      have hk : k < n := by
        apply Classical.byContradiction
        intro q
        rw [List.getElem?_eq_none (by rw [List.length_range]; omega)] at hb
        cases hb
      rw [List.getElem?_range hk] at hb
      cases hb
      exact u5 k hk
    have hI := Inv_go hpl (Inv_0 S n (fun _ => f) r f (sAw S).testBit) (a := f) (t := 0) hf rfl (if_pos rfl)
    have hfin := Fin_of2 hI (fun h hh _ => by
      by_cases e : h = f
      · left; simp [e]
      · right; exact rl_no e r n)
    have heq := fw_eq (WF_far1 hW) hpl hfin
    have hpr : pr σ ρ := hpu.tr (r1.pr (by decide))
    have hRr := hR.pr h12 hpr
    obtain ⟨b1, b2, b3, -⟩ := go_bd (f := f) (aw := (sAw S).testBit) hfar hwk (rl (fun _ => f) r f n) (fun h => if h = f then some 0 else none) 0 f 0 12460 hgl hf (by omega) (fun h v hv => by
      by_cases e : h = f
      · rw [if_pos e] at hv; cases hv; omega
      · rw [if_neg e] at hv; cases hv) (Nat.two_pow_pos _)
    refine r_arriveAwake (A := fun h => (if h ∈ rl (fun _ => f) r f n ∧ h ≠ f ∧ (sAw S).testBit h = true then some (rend S f (sAw S).testBit (rl (fun _ => f) r f n) 0 f) else none).map (fun x => x.1 + sFar S x.2 fire)) hRr hW hfi r2 (fun h hh => ?_) (fun h v hh hv => by have := b3 h v hv; omega) (fun ρ2 s1 s2 => ⟨rfl, ?_⟩)
    · rw [r3 h hh, u4 h (by omega)]
      by_cases c3 : h ∈ rl (fun _ => f) r f n ∧ h ≠ f ∧ (sAw S).testBit h = true
      · rw [if_pos c3, if_pos c3]; rfl
      · rw [if_neg c3, if_neg c3]; rfl
    have hbd : bdW S (fwQ S n r f (sAw S)) := by
      refine ⟨fun h v hh hv => ?_, fun h v hh hv => ?_⟩
      · have e := (heq h hh).1
        unfold fwQ at hv
        rw [← e] at hv
        have := b3 h v hv
        omega
      · have e := (heq h hh).2
        unfold fwQ at hv
        rw [← e] at hv
        dsimp only at hv
        by_cases c3 : h ∈ rl (fun _ => f) r f n ∧ h ≠ f ∧ (sAw S).testBit h = true
        · rw [if_pos c3] at hv
          cases hv
          obtain ⟨e1, e2⟩ := go_end (S := S) (f := f) (aw := (sAw S).testBit) (rl (fun _ => f) r f n) (fun h => if h = f then some 0 else none) (fun _ => none) 0 f 0 0
          unfold rend
          rw [← e1, ← e2]
          exact ⟨by omega, b2⟩
        · rw [if_neg c3] at hv; cases hv
    have hps : pr σ ρ2 := hpr.tr (s1.pr (by decide))
    have hRs := hR.pr h12 hps
    refine r_comeAll (A := arr S (fwQ S n r f (sAw S)) fire) hRs hW (fun h hh => ?_) (fun ρ3 q1 q2 => ⟨rfl, ?_⟩)
    · rw [s2 h hh]
      congr 1
      unfold arr fwQ
      rw [← (heq h hh).1, ← (heq h hh).2]
      dsimp only
      cases (go S f (sAw S).testBit (rl (fun _ => f) r f n) (fun h => if h = f then some 0 else none, 0, f, 0)).1 h with
      | some t => rfl
      | none =>
        dsimp only
        split
        · rfl
        · rfl
    have hpq : pr σ ρ3 := hps.tr (q1.pr (by decide))
    have hRq := hR.pr h12 hpq
    have hcb : ∀ p v, p < sP S → cmQ S n r f (sAw S) fire p = some v → v ≤ 1000000 := fun p v hp hv => arr_bd hW hbd hfi (hW.2.1.1 p hp).1 hv
    dsimp only
    rw [hRq.1.2.1, bs_full (by omega)]
    refine r_putIn (m := full S) (cm := cmQ S n r f (sAw S) fire) hRq hW (by have := full_lt hW; omega) q2 hcb (full_clo hW) (fun ρ4 v1 _ => ⟨_, rfl, ?_⟩)
    have hsb := stO_bd (m := full S) hW hcb
    dsimp only
    rw [ot_held (fun v hv => by have := hsb v hv; omega)]
    refine hQ ρ4 ?_ ?_
    · exact (((u1.mono (by decide) (by decide)).tr ((r1.B [26, 31]).mono (by decide) (by decide))).tr ((s1.B [26, 31]).mono (by decide) (by decide))).tr (((q1.B [26, 31]).mono (by decide) (by decide)).tr (v1.mono (by decide) (by decide)))
    · unfold evQ
      cases hs : stO S (cmQ S n r f (sAw S) fire) (full S) with
      | none => show 500 ≤ _; omega
      | some v => exact hsb v hs
  · rintro k υ hk ⟨u1, u2, u3, u4, u5⟩ ih
    have u34 : υ.1 0 34 = nI n := by rw [u1.2 34 (by decide)]; exact h34
    refine sg_X9_cried_15 _ _ _ (pk_le n k (fun c => by omega) (fun c => ⟨pk_in k 9 (by omega), pk_in k 20 (by omega), ?_⟩) u34 rfl)
    rw [nI_1, pk_cl k rfl (by omega)]
    refine ih _ ⟨u1.wa _ _ (by decide), u2, fun h hh => by rw [wa_ne _ _ _ (show 15 ≠ 17 by decide)]; exact u3 h hh, fun h hh => by rw [wa_ne _ _ _ (show 16 ≠ 17 by decide)]; exact u4 h hh, fun x hx => ?_⟩
    rw [bs_get]
    by_cases e : x = k
    · subst e
      rw [if_pos ⟨rfl, rfl⟩, u1.1 22 (by decide)]
      exact h22 x hk
    · rw [if_neg (fun z => e z.2)]
      exact u5 x (by omega)
/-- the HOUSES that the crier goes to -/
def cr (S : SP) (f : Nat) : Nat → List Nat
  | 0 => []
  | h + 1 => if h ≠ f ∧ mk (fun p => sKp S p == h) (sP S) ≠ 0 then cr S f h ++ [h] else cr S f h
theorem cr_mem {S : SP} {f x : Nat} : ∀ {h : Nat}, x ∈ cr S f h → x < h ∧ x ≠ f
  | 0, hx => by simp [cr] at hx
  | h + 1, hx => by
    rw [cr] at hx
    by_cases c : h ≠ f ∧ mk (fun p => sKp S p == h) (sP S) ≠ 0
    · rw [if_pos c, List.mem_append, List.mem_singleton] at hx
      rcases hx with q | rfl
      · have := cr_mem q; exact ⟨by omega, this.2⟩
      · exact ⟨by omega, c.1⟩
    · rw [if_neg c] at hx
      have := cr_mem hx
      exact ⟨by omega, this.2⟩
theorem cr_len (S : SP) (f : Nat) : ∀ h, (cr S f h).length ≤ h
  | 0 => by simp [cr]
  | h + 1 => by
    have ih := cr_len S f h
    rw [cr]
    split
    · rw [List.length_append, List.length_singleton]; omega
    · omega
theorem cr_up (S : SP) (f : Nat) : ∀ h, (cr S f h).Pairwise (· < ·)
  | 0 => by simp [cr]
  | h + 1 => by
    have ih := cr_up S f h
    rw [cr]
    split
    · rw [List.pairwise_append]
      refine ⟨ih, by simp, fun a ha b hb => ?_⟩
      rw [List.mem_singleton] at hb
      rw [hb]
      exact (cr_mem ha).1
    · exact ih
def r0 (S : SP) (f x : Nat) : Nat := (cr S f (sH S)).getD x 0
theorem r0_get {S : SP} {f x : Nat} (hx : x < (cr S f (sH S)).length) : r0 S f x = (cr S f (sH S))[x] := by
  unfold r0
  rw [List.getD_eq_getElem?_getD, List.getElem?_eq_getElem hx]
  rfl
theorem r0_up {S : SP} {f a b : Nat} (ha : a < (cr S f (sH S)).length) (hb : b < (cr S f (sH S)).length) : r0 S f a < r0 S f b ↔ a < b := by
  have h := List.pairwise_iff_getElem.mp (cr_up S f (sH S))
  rw [r0_get ha, r0_get hb]
  constructor
  · intro q
    apply Classical.byContradiction
    intro c
    rcases (show b = a ∨ b < a by omega) with e | e
    · subst e; omega
    · have := h b a hb ha e; omega
  · intro q
    exact h a b ha hb q
theorem r0_ok (S : SP) (f : Nat) : okr S f (cr S f (sH S)).length (r0 S f) := by
  refine ⟨fun i hi => ?_, fun i j hi hj e => ?_⟩
  · rw [r0_get hi]
    exact cr_mem (List.getElem_mem hi)
  · have h1 := r0_up hi hj
    have h2 := r0_up hj hi
    omega
def bst (ev : (Nat → Nat) → Nat) (r : Nat → Nat) (b : Option (Nat × (Nat → Nat))) : Option (Nat × (Nat → Nat)) := match b with
  | none => some (ev r, r)
  | some (v, s) => if ev r < v then some (ev r, r) else some (v, s)
def srch (n : Nat) (ev : (Nat → Nat) → Nat) : Nat → (Nat → Nat) → Option (Nat × (Nat → Nat)) → Option (Nat × (Nat → Nat))
  | 0, _, b => b
  | f + 1, r, b => match nx n r with
    | none => bst ev r b
    | some r' => srch n ev f r' (bst ev r b)
theorem bst_some (ev : (Nat → Nat) → Nat) (r : Nat → Nat) (b : Option (Nat × (Nat → Nat))) : ∃ y, bst ev r b = some y := by
  unfold bst
  cases b with
  | none => exact ⟨_, rfl⟩
  | some x =>
    dsimp only
    split
    · exact ⟨_, rfl⟩
    · exact ⟨_, rfl⟩
theorem srch_some (n : Nat) (ev : (Nat → Nat) → Nat) : ∀ (k : Nat) (r : Nat → Nat) (b : Option (Nat × (Nat → Nat))), (∃ y, b = some y) → ∃ y, srch n ev k r b = some y
  | 0, _, _, h => h
  | k + 1, r, b, _ => by
    rw [srch]
    cases nx n r with
    | none => exact bst_some ev r b
    | some r' => exact srch_some n ev k r' _ (bst_some ev r b)
noncomputable def srB (S : SP) (fire f : Nat) : Option (Nat × (Nat → Nat)) := srch (cr S f (sH S)).length (evQ S f fire (cr S f (sH S)).length) 5040 (r0 S f) none
theorem srB_some (S : SP) (fire f : Nat) : ∃ y, srB S fire f = some y := by
  unfold srB
  show ∃ y, srch _ _ (5039 + 1) _ _ = some y
  rw [srch]
  cases nx (cr S f (sH S)).length (r0 S f) with
  | none => exact bst_some _ _ _
  | some r' => exact srch_some _ _ _ _ _ (bst_some _ _ _)
noncomputable def aCrier (S : SP) (x y z : Int32) : Int32 := match ix x (sH S), ix y (sH S) with
  | some fire, some f => if 7 < (cr S f (sH S)).length then -1000003 else if z = -1 then ot ((srB S fire f).map (·.1)) else match ix z (cr S f (sH S)).length with
    | none => -1
    | some i => nI ((srB S fire f).elim 0 (fun b => b.2 i))
  | _, _ => -1000001
set_option maxHeartbeats 2000000 in
theorem r_crier_go {S : SP} {σ : nh_S} (hR : RR σ S) (hW : WF S) {fire f : Nat} {z : Int32} (hfi : fire < sH S) (hf : f < sH S) (h7 : (cr S f (sH S)).length ≤ 7) {Q : Option Value → nh_S → Prop}
    (hQ : ∀ τ v s, pr σ τ → srB S fire f = some (v, s) → τ.1 0 34 = nI (cr S f (sH S)).length → (∀ x, x < (cr S f (sH S)).length → τ.2.1 23 x = nI (s x)) → nh_E kX9_crier 98 [some (.ref 0), some (.int (nI fire)), some (.int (nI f)), some (.int z), some (.int (nI v)), some (.int 0), none, none] [] τ Q) :
    ∀ (fu m : Nat) (r : Nat → Nat) (b : Option (Nat × (Nat → Nat))) (τ : nh_S), rn (cr S f (sH S)).length fu m = true → (∀ x, x < (cr S f (sH S)).length → r x = r0 S f (dg m x) ∧ dg m x < (cr S f (sH S)).length) → okr S f (cr S f (sH S)).length r → pr σ τ → τ.1 0 34 = nI (cr S f (sH S)).length → (∀ x, x < (cr S f (sH S)).length → τ.2.1 22 x = nI (r x)) → (∀ v s, b = some (v, s) → v ≤ 1000720 ∧ ∀ x, x < (cr S f (sH S)).length → τ.2.1 23 x = nI (s x)) → srch (cr S f (sH S)).length (evQ S f fire (cr S f (sH S)).length) fu r b = srB S fire f →
      nh_E kX9_crier 98 [some (.ref 0), some (.int (nI fire)), some (.int (nI f)), some (.int z), some (.int (ot (b.map (·.1)))), some (.int 1), none, none] [] τ Q := by
  have h9 := hW.1.1
  have h12 := hW.1.2.1
  intro fu
  induction fu with
  | zero => intro m r b τ h; cases h
  | succ fu ih =>
    intro m r b τ hrn hrd hok hp h34 h22 h23 hs
    generalize hn : (cr S f (sH S)).length = n at *
    have hRt := hR.pr h12 hp
    -- behind a round: the next
    have aft : ∀ υ v s, pr σ υ → bst (evQ S f fire n) r b = some (v, s) → v ≤ 1000720 → υ.1 0 34 = nI n → (∀ x, x < n → υ.2.1 22 x = nI (r x)) → (∀ x, x < n → υ.2.1 23 x = nI (s x)) →
        nh_E kX9_nextRound 0 [some (.ref 0), none, none, none, none, none] [] υ (nh_qi fun r3 τ2 => nh_E kX9_crier 98 [some (.ref 0), some (.int (nI fire)), some (.int (nI f)), some (.int z), some (.int (nI v)), some (.int r3), none, none] [] τ2 Q) := by
      intro υ v s hpu hb hv u34 u22 u23
      rw [srch, hb] at hs
      have hmap := nx_map (n := n) (r := r) (d := dg m) (c := r0 S f) hrd (fun a b ha hb => r0_up (by rw [hn]; exact ha) (by rw [hn]; exact hb))
      rw [rn] at hrn
      unfold nst at hrn
      refine r_nextRound (by omega) (fun x hx => by have := (hok.1 x hx).1; omega) u34 u22 (fun e => ⟨_, rfl, ?_⟩) (fun r' e τ3 v1 v2 => ⟨_, rfl, ?_⟩)
      · rw [e] at hs
        exact hQ υ v s hpu hs.symm u34 u23
      · rw [e] at hs
        have hpv : pr σ τ3 := hpu.tr (v1.pr (by decide))
        cases hd : nx n (dg m) with
        | none => rw [hmap.1 hd] at e; cases e
        | some d' =>
          rw [hd] at hrn
          obtain ⟨r2, e2, e3⟩ := hmap.2 d' hd
          rw [e] at e2
          cases e2
          have hd8 : ∀ x, x < n → d' x < 8 := fun x hx => by have := (e3 x hx).2; omega
          refine ih (en d' n) r' (some (v, s)) τ3 hrn (fun x hx => ?_) (okr_nx hok e) hpv (by rw [v1.1]; exact u34) v2 (fun v' s' q => ?_) hs
          · rw [dg_en hd8 x hx]
            exact e3 x hx
          · cases q
            exact ⟨hv, fun x hx => by rw [v1.2 23 (by decide)]; exact u23 x hx⟩
    -- a better round is taken down
    have copy : ∀ υ, pr σ υ → evQ S f fire n r ≤ 1000720 → bst (evQ S f fire n) r b = some (evQ S f fire n r, r) → υ.1 0 34 = nI n → (∀ x, x < n → υ.2.1 22 x = nI (r x)) →
        nh_E kX9_crier 130 [some (.ref 0), some (.int (nI fire)), some (.int (nI f)), some (.int z), some (.int (nI (evQ S f fire n r))), none, none, some (.int 0)] [] υ Q := by
      intro υ hpu hv hb u34 u22
      refine nh_loop (α := nh_S) (fun k ρ => nh_E kX9_crier 130 [some (.ref 0), some (.int (nI fire)), some (.int (nI f)), some (.int z), some (.int (nI (evQ S f fire n r))), none, none, some (.int (nI k))] [] ρ Q) (fun k ρ => frA [23] υ ρ ∧ ∀ x, x < k → ρ.2.1 23 x = nI (r x)) n ?_ ?_ n 0 υ (by omega) ⟨frA.rf _ _, fun x hx => by omega⟩
      · rintro ρ ⟨g1, g2⟩
        have g34 : ρ.1 0 34 = nI n := by rw [g1.1]; exact u34
        refine sg_X9_crier_130 _ _ _ _ _ (pk_le n n (fun _ => ?_) (fun c => by omega) g34 rfl)
        exact aft ρ _ r (hpu.tr (g1.pr (by decide))) hb hv g34 (fun x hx => by rw [g1.2 22 (by decide)]; exact u22 x hx) g2
      · rintro k ρ hk ⟨g1, g2⟩ ih2
        have g34 : ρ.1 0 34 = nI n := by rw [g1.1]; exact u34
        refine sg_X9_crier_130 _ _ _ _ _ (pk_le n k (fun c => by omega) (fun c => ⟨pk_in k 9 (by omega), ?_⟩) g34 rfl)
        rw [nI_1, pk_cl k rfl (by omega)]
        refine ih2 _ ⟨g1.wa _ _ (by decide), fun x hx => ?_⟩
        rw [bs_get]
        by_cases e : x = k
        · subst e
          rw [if_pos ⟨rfl, rfl⟩, g1.2 22 (by decide)]
          exact u22 x hk
        · rw [if_neg (fun z => e z.2)]
          exact g2 x (by omega)
    refine sg_X9_crier_98 _ _ _ _ _ ⟨fun q => absurd q (by decide), fun _ => ?_⟩
    refine r_cried hRt hW hfi hf (by omega) hok h34 h22 (fun υ u1 u2 => ⟨_, rfl, ?_⟩)
    have hpu : pr σ υ := hp.tr (u1.pr (by decide) (by decide))
    have u34 : υ.1 0 34 = nI n := by rw [u1.2 34 (by decide)]; exact h34
    have u22 : ∀ x, x < n → υ.2.1 22 x = nI (r x) := fun x hx => by rw [u1.1 22 (by decide)]; exact h22 x hx
    cases b with
    | none => exact ⟨fun _ => copy υ hpu u2 rfl u34 u22, fun c => absurd ot_neg c⟩
    | some y =>
      obtain ⟨v, s⟩ := y
      obtain ⟨hv, h23b⟩ := h23 v s rfl
      refine ⟨fun c => absurd c (ot_nn (t := v) (by omega)), fun _ => ?_⟩
      refine pk_le v (evQ S f fire n r) (fun c => ?_) (fun c => ?_)
      · exact aft υ v s hpu (by unfold bst; dsimp only; rw [if_neg (by omega)]) hv u34 u22 (fun x hx => by rw [u1.1 23 (by decide)]; exact h23b x hx)
      · exact copy υ hpu u2 (by unfold bst; dsimp only; rw [if_pos c]) u34 u22
set_option maxHeartbeats 1000000 in
theorem r_crier {S : SP} {σ : nh_S} (hR : RR σ S) (hW : WF S) (x y z : Int32) {Q : Option Value → nh_S → Prop} (hQ : ∀ τ, RR τ S → Q (some (.int (aCrier S x y z))) τ) : nh_E kX9_crier 0 [some (.ref 0), some (.int x), some (.int y), some (.int z), none, none, none, none] [] σ Q := by
  have h9 := hW.1.1
  have h12 := hW.1.2.1
  unfold aCrier at hQ
  refine sg_X9_crier_0 x y z ?_
  rw [hR.1.1, ix_ref (by omega), ix_ref (by omega)]
  rcases ix_cases x (n := sH S) (by omega) with ⟨fire, hfi, rfl, e⟩ | ⟨e, hx⟩
  · refine ⟨fun c => absurd ⟨fire, hfi, rfl⟩ c, fun _ => ?_⟩
    rcases ix_cases y (n := sH S) (by omega) with ⟨f, hf, rfl, e2⟩ | ⟨e2, hy⟩
    · rw [e, e2] at hQ
      dsimp only at hQ
      refine ⟨fun _ => ?_, fun c => absurd ⟨f, hf, rfl⟩ c⟩
      refine nh_loop (α := nh_S) (fun h τ => nh_E kX9_crier 27 [some (.ref 0), some (.int (nI fire)), some (.int (nI f)), some (.int z), some (.int (nI h)), none, none, none] [] τ Q) (fun h τ => pr σ τ ∧ τ.1 0 34 = nI (cr S f h).length ∧ ∀ k b, (cr S f h)[k]? = some b → τ.2.1 22 k = nI b) (sH S) ?_ ?_ (sH S) 0 _ (by omega) ⟨pr.si σ _ (by decide), by rw [bs_geti, if_pos ⟨rfl, rfl⟩]; rfl, fun k b hb => by simp [cr] at hb⟩
      · rintro τ ⟨t1, t2, t3⟩
        have hRt := hR.pr h12 t1
        have hlen := cr_len S f (sH S)
        refine sg_X9_crier_27 _ _ _ _ (pk_le (sH S) (sH S) (fun _ => ?_) (fun c => by omega) hRt.1.1 rfl)
        refine pk_le (cr S f (sH S)).length 7 (fun c => ?_) (fun c => ?_) t2 rfl
        · rw [if_neg (by omega)] at hQ
          refine r_crier_go hR hW hfi hf c (fun υ v s u1 u2 u3 u4 => ?_) 5040 (en (fun x => x) (cr S f (sH S)).length) (r0 S f) none τ (rn_all _ (by omega)) (fun x hx => ?_) (r0_ok S f) t1 t2 (fun x hx => ?_) (fun v s q => by cases q) rfl
          · have hRu := hR.pr h12 u1
            rw [u2] at hQ
            refine sg_X9_crier_98 _ _ _ _ _ ⟨fun _ => ?_, fun q => absurd rfl q⟩
            rw [u3]
            by_cases ez : z = -1
            · rw [if_pos ez] at hQ
              refine ⟨fun q => absurd ez q, ?_⟩
              rw [if_pos ez]
              exact hQ υ hRu
            · rw [if_neg ez] at hQ
              rw [if_neg ez]
              rcases ix_cases z (n := (cr S f (sH S)).length) (by omega) with ⟨i, hi, rfl, e3⟩ | ⟨e3, hz⟩
              · rw [e3] at hQ
                refine ⟨fun _ _ => pk_in i 9 (by omega), ?_⟩
                rw [if_pos ((ix_ref (by omega)).mpr ⟨i, hi, rfl⟩), pk_cl i rfl (by omega), u4 i hi]
                exact hQ υ hRu
              · rw [e3] at hQ
                refine ⟨fun _ q => ?_, ?_⟩
                · obtain ⟨i, hi, q2⟩ := (ix_ref (by omega)).mp q
                  exact absurd q2 (hz i hi)
                · rw [if_neg (fun q => by obtain ⟨i, hi, q2⟩ := (ix_ref (by omega)).mp q; exact hz i hi q2)]
                  exact hQ υ hRu
          · rw [dg_en (fun x hx => by omega) x hx]
            exact ⟨rfl, hx⟩
          · rw [r0_get hx]
            exact t3 x _ (List.getElem?_eq_getElem hx)
        · rw [if_pos c] at hQ
          exact hQ τ hRt
      · rintro h τ hh ⟨t1, t2, t3⟩ ih
        have hRt := hR.pr h12 t1
        have hlen := cr_len S f h
        have hml : mk (fun p => sKp S p == h) (sP S) < 2 ^ 31 := Nat.lt_of_lt_of_le (mk_lt _ _) (pw_le (by omega))
        rw [cr] at ih
        refine sg_X9_crier_27 _ _ _ _ (pk_le (sH S) h (fun c => by omega) (fun c => ?_) hRt.1.1 rfl)
        rw [nI_1]
        refine pk_eq h f (fun c2 => ?_) (fun c2 => ?_)
        · rw [if_neg (fun q => q.1 c2)] at ih
          exact ih τ ⟨t1, t2, t3⟩
        · refine r_partsAt hRt hW (by omega) ⟨_, rfl, ?_⟩
          refine pk_eq (mk (fun p => sKp S p == h) (sP S)) 0 (fun c3 => ?_) (fun c3 => ?_)
          · rw [if_neg (fun q => q.2 c3)] at ih
            exact ih τ ⟨t1, t2, t3⟩
          · rw [if_pos ⟨c2, c3⟩] at ih
            rw [t2, nI_1]
            refine ⟨pk_in (cr S f h).length 9 (by omega), ?_⟩
            rw [pk_cl (cr S f h).length rfl (by omega)]
            refine ih _ ⟨(t1.tr (pr.wa τ _ _ (by decide))).tr (pr.si _ _ (by decide)), by rw [bs_geti, if_pos ⟨rfl, rfl⟩, List.length_append, List.length_singleton], fun k b hb => ?_⟩
            show (nh_wa τ 22 _ _).2.1 22 k = _
            rw [bs_get]
            rcases Nat.lt_trichotomy k (cr S f h).length with q | q | q
            · rw [if_neg (by omega)]
              rw [List.getElem?_append_left q] at hb
              exact t3 k b hb
            · subst q
              rw [List.getElem?_append_right (Nat.le_refl _)] at hb
              simp at hb
              rw [if_pos ⟨rfl, rfl⟩, hb]
            · rw [List.getElem?_eq_none (by rw [List.length_append, List.length_singleton]; omega)] at hb
              cases hb
    · rw [e, e2] at hQ
      exact ⟨fun ⟨h, hh, q⟩ => absurd q (hy h hh), fun _ => hQ _ hR⟩
  · rw [e] at hQ
    exact ⟨fun _ => hQ _ hR, fun ⟨h, hh, q⟩ => absurd q (hx h hh)⟩
