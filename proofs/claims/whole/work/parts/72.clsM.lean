/-! THE CLASS: the crier -/
theorem c_swap29 {σ : nh_S} {i k : Nat} (hi : i < 20) (hk : k < 20) {Q : Option Value → nh_S → Prop} (hQ : Q none (nh_wa (nh_wa σ 29 i (σ.2.1 29 k)) 29 k (σ.2.1 29 i))) : nh_E kX8_swap 0 [some (.ref 29), some (.int (nI i)), some (.int (nI k)), none] [] σ Q := by
  refine sg_X8_swap_0 (a0 := 29) (n0 := 20) rfl _ _ ⟨pk_in i 20 hi, pk_in k 20 hk, ?_⟩
  rw [pk_cl i rfl (by omega), pk_cl k rfl (by omega)]
  exact hQ
set_option maxHeartbeats 1000000 in
theorem c_rev {σ : nh_S} {r : Nat → Nat} {i n : Nat} (hi : i < n) (hn : n ≤ 9) (h22 : ∀ x, x < n → σ.2.1 29 x = nI (r x)) {Q : Option Value → nh_S → Prop} (hQ : ∀ τ, frC [29] σ τ → (∀ x, x < n → τ.2.1 29 x = nI (rvs r i n x)) → Q (some (.int 1)) τ) :
    nh_E kX0_turnToNext 89 [none, some (.ref 29), none, none, none, some (.int (nI (i + 1))), some (.int (nI (n - 1)))] [] σ Q := by
  have main : ∀ N s τ, n < N + s → i + 1 + 2 * s ≤ n → frC [29] σ τ → (∀ x, x < n → τ.2.1 29 x = nI (if (i < x ∧ x < i + 1 + s) ∨ n - 1 - s < x then r (i + n - x) else r x)) → nh_E kX0_turnToNext 89 [none, some (.ref 29), none, none, none, some (.int (nI (i + 1 + s))), some (.int (nI (n - 1 - s)))] [] τ Q := by
    intro N
    induction N with
    | zero => intro s τ h1 h2; omega
    | succ N ih =>
      intro s τ h1 h2 hf hx
      refine sg_X0_turnToNext_89 _ _ (pk_le (n - 1 - s) (i + 1 + s) (fun c => ?_) (fun c => ?_))
      · refine hQ τ hf (fun x h => ?_)
        rw [hx x h]
        unfold rvs
        by_cases c1 : i < x ∧ x < n
        · rw [if_pos c1]
          by_cases c2 : (i < x ∧ x < i + 1 + s) ∨ n - 1 - s < x
          · rw [if_pos c2]
          · rw [if_neg c2, show i + n - x = x by omega]
        · rw [if_neg c1, if_neg (by omega)]
      · have e1 : nI (n - 1 - s) + (-1) = nI (n - 1 - (s + 1)) := by
          have := pk_m1 (n - 1 - (s + 1))
          rw [show n - 1 - (s + 1) + 1 = n - 1 - s by omega] at this
          exact this
        rw [nI_1, e1]
        refine c_swap29 (by omega) (by omega) ⟨rfl, ?_⟩
        refine ih (s + 1) _ (by omega) (by omega) ((hf.wa _ _ (by decide)).wa _ _ (by decide)) (fun x h => ?_)
        rw [bs_get, bs_get]
        by_cases c1 : x = n - 1 - s
        · rw [if_pos ⟨rfl, c1⟩, hx (i + 1 + s) (by omega), if_neg (by omega), if_pos (by omega), show i + n - x = i + 1 + s by omega]
        · rw [if_neg (fun z => c1 z.2)]
          by_cases c2 : x = i + 1 + s
          · rw [if_pos ⟨rfl, c2⟩, hx (n - 1 - s) (by omega), if_neg (by omega), if_pos (by omega), show i + n - x = n - 1 - s by omega]
          · rw [if_neg (fun z => c2 z.2), hx x h]
            by_cases c3 : (i < x ∧ x < i + 1 + s) ∨ n - 1 - s < x
            · rw [if_pos c3, if_pos (by omega)]
            · rw [if_neg c3, if_neg (by omega)]
  exact main (n + 1) 0 σ (by omega) (by omega) (frC.rf _ _) (fun x h => by rw [if_neg (by omega)]; exact h22 x h)
set_option maxHeartbeats 1000000 in
theorem c_turnToNext {σ : nh_S} {n : Nat} {r : Nat → Nat} (hn : n ≤ 9) (hr : ∀ x, x < n → r x < 9) (h34 : σ.1 27 0 = nI n) (h22 : ∀ x, x < n → σ.2.1 29 x = nI (r x)) {Q : Option Value → nh_S → Prop} (hQ0 : nx n r = none → Q (some (.int 0)) σ) (hQ1 : ∀ r', nx n r = some r' → ∀ τ, frC [29] σ τ → (∀ x, x < n → τ.2.1 29 x = nI (r' x)) → Q (some (.int 1)) τ) :
    nh_E kX0_turnToNext 0 [some (.ref 25), none, none, none, none, none, none] [] σ Q := by
  refine sg_X0_turnToNext_0 ?_
  rw [h34]
  have second : ∀ i, i + 1 < n → dsc r (n - 1) = i + 1 → ∀ j, j + 1 ≤ n → fnd r i n = fnd r i (j + 1) → nh_E kX0_turnToNext 52 [none, some (.ref 29), some (.int (nI (n - 1))), some (.int (nI i)), some (.int (nI j)), none, none] [] σ Q := by
    intro i hi hd j
    have k2 := fnd_gt (dsc_up hd) hi
    have hri := hr i (by omega)
    have fin : ∀ j, j + 1 ≤ n → fnd r i n = j → nh_E kX8_swap 0 [some (.ref 29), some (.int (nI i)), some (.int (nI j)), none] [] σ (nh_qv fun τ2 => nh_E kX0_turnToNext 89 [none, some (.ref 29), none, none, none, some (.int (nI i + 1)), some (.int (nI (n - 1)))] [] τ2 Q) := by
      intro j hj e
      refine c_swap29 (by omega) (by omega) ⟨rfl, ?_⟩
      rw [nI_1, h22 i (by omega), h22 j (by omega)]
      refine c_rev (r := sw r i j) (by omega) hn (fun x hx => ?_) (fun τ t1 t2 => ?_)
      · rw [bs_get, bs_get]
        unfold sw
        by_cases c1 : x = j
        · rw [if_pos ⟨rfl, c1⟩, if_neg (by omega), if_pos c1]
        · rw [if_neg (fun z => c1 z.2)]
          by_cases c2 : x = i
          · rw [if_pos ⟨rfl, c2⟩, if_pos c2]
          · rw [if_neg (fun z => c2 z.2), if_neg c2, if_neg c1]
            exact h22 x hx
      · refine hQ1 _ ?_ τ ((((frC.rf [29] σ).wa _ _ (by decide)).wa _ _ (by decide)).tr t1) t2
        unfold nx
        rw [hd]
        dsimp only
        rw [e]
    induction j with
    | zero =>
      intro hj e
      exfalso
      have := fnd_lt r i (m := 0 + 1) (by omega)
      omega
    | succ j ih =>
      intro hj e
      have hlt := fnd_lt r i (m := j + 1 + 1) (by omega)
      refine sg_X0_turnToNext_52 _ _ _ (pk_le (j + 1) i (fun c => by omega) (fun c => ⟨pk_in (j + 1) 20 (by omega), pk_in i 20 (by omega), ?_⟩))
      rw [pk_cl (j + 1) rfl (by omega), pk_cl i rfl (by omega), h22 (j + 1) (by omega), h22 i (by omega)]
      have hrj := hr (j + 1) (by omega)
      refine pk_le (r i) (r (j + 1)) (fun c => ?_) (fun c => ?_)
      · refine fin (j + 1) hj ?_
        rw [e, fnd, if_neg (by omega)]
      · rw [pk_m1]
        refine ih (by omega) ?_
        rw [e, fnd, if_pos c]
  by_cases h0 : n = 0
  · subst h0
    exact sg_X0_turnToNext_22 _ _ ⟨fun _ => ⟨fun c => absurd c (by decide), fun _ => hQ0 rfl⟩, fun c => absurd (show nI 0 - 1 - 1 < 0 by decide) c⟩
  · have e1 : nI n - 1 = nI (n - 1) := by
      have := nI_pred (n - 1)
      rw [show n - 1 + 1 = n by omega] at this
      exact this
    have main : ∀ m, m ≤ n - 1 → dsc r (n - 1) = dsc r m → nh_E kX0_turnToNext 22 [none, some (.ref 29), some (.int (nI (n - 1))), some (.int (nI m + (-1))), none, none, none] [] σ Q := by
      intro m
      induction m with
      | zero =>
        intro _ e
        refine sg_X0_turnToNext_22 _ _ ⟨fun _ => ⟨fun c => absurd c (by decide), fun _ => hQ0 ?_⟩, fun c => absurd (show nI 0 + (-1) < 0 by decide) c⟩
        unfold nx
        rw [e]
        rfl
      | succ m ih =>
        intro hm e
        rw [pk_m1]
        refine sg_X0_turnToNext_22 _ _ ⟨fun c => absurd c (nI_pos (by omega)), fun _ => ?_⟩
        rw [nI_1, pk_cl m rfl (by omega), pk_cl (m + 1) rfl (by omega), h22 m (by omega), h22 (m + 1) (by omega)]
        have h1 := hr m (by omega)
        have h2 := hr (m + 1) (by omega)
        refine ⟨pk_in m 20 (by omega), pk_in (m + 1) 20 (by omega), pk_le (r m) (r (m + 1)) (fun c => ⟨fun _ => ?_, fun c2 => absurd (nI_pos' (by omega)) c2⟩) (fun c => ?_)⟩
        · have hd : dsc r (n - 1) = m + 1 := by rw [e, dsc, if_neg (by omega)]
          refine second m (by omega) hd (n - 1) (by omega) ?_
          rw [show n - 1 + 1 = n by omega]
        · refine ih (by omega) ?_
          rw [e, dsc, if_pos c]
    rw [e1, Int32.sub_eq_add_neg]
    exact main (n - 1) (Nat.le_refl _) rfl
theorem cr_mono (S : SP) (f h : Nat) : ∀ k, (cr S f h).length ≤ (cr S f (h + k)).length
  | 0 => Nat.le_refl _
  | k + 1 => by
    have ih := cr_mono S f h k
    rw [show h + (k + 1) = (h + k) + 1 from rfl, cr]
    split
    · rw [List.length_append]; omega
    · exact ih
theorem prC.wa {σ τ : nh_S} (h : prC σ τ) {k : Nat} (i : Nat) (x : Int32) (hk : sc k) : prC σ (nh_wa τ k i x) := ⟨fun j hj => ⟨(h.1 j hj).1, by rw [wa_ne τ i x (fun e => hj (by rw [e]; exact hk))]; exact (h.1 j hj).2⟩, h.2⟩
theorem prC.cp {σ τ : nh_S} (h : prC σ τ) {k0 k1 : Nat} (sp dp n : Nat) (hk : sc k1) : prC σ (nh_cp τ k0 k1 sp dp n) := ⟨fun j hj => ⟨(h.1 j hj).1, by funext i; rw [bs_cp, if_neg (fun e => hj (by rw [e.1]; exact hk)), (h.1 j hj).2]⟩, h.2⟩
theorem sc25 : sc 25 ∧ sc 26 ∧ sc 27 ∧ sc 28 ∧ sc 29 := by unfold sc; omega
set_option maxHeartbeats 1000000 in
theorem c_sendOut {S : SP} {σ : nh_S} (hC : CR σ S) (hW : WF S) {f : Nat} (hf : f < sH S) {Q : Option Value → nh_S → Prop} (hQ0 : 7 < (cr S f (sH S)).length → ∀ τ, prC σ τ → Q (some (.int 0)) τ) (hQ1 : (cr S f (sH S)).length ≤ 7 → ∀ τ, prC σ τ → τ.1 25 3 = nI f → τ.1 27 0 = nI (cr S f (sH S)).length → (∀ x, x < (cr S f (sH S)).length → τ.2.1 28 x = nI f ∧ τ.2.1 29 x = nI (r0 S f x)) → Q (some (.int 1)) τ) : nh_E kX0_sendOut 0 [some (.ref 25), some (.ref (σ.2.2 0 11)), some (.ref 3), some (.int (nI f)), none] [] σ Q := by
  have h9 := hW.1.1
  have h12 := hW.1.2.1
  obtain ⟨s25, s26, s27, s28, s29⟩ := sc25
  have ho := hC.1.1
  refine sg_X0_sendOut_0 ho isN_3 _ ?_
  refine nh_loop (α := nh_S) (fun h τ => nh_E kX0_sendOut 16 [some (.ref 25), some (.ref (σ.2.2 0 11)), some (.ref 3), none, some (.int (nI h))] [] τ Q) (fun h τ => prC σ τ ∧ τ.1 25 3 = nI f ∧ τ.1 27 0 = nI (cr S f h).length ∧ (cr S f h).length ≤ 7 ∧ ∀ k b, (cr S f h)[k]? = some b → τ.2.1 28 k = nI f ∧ τ.2.1 29 k = nI b) (sH S) ?_ ?_ (sH S) 0 _ (by omega) ⟨((prC.rf σ).si _ _ s25).si _ _ s27, by rw [bs_geti, if_neg (by omega), bs_geti, if_pos ⟨rfl, rfl⟩], by rw [bs_geti, if_pos ⟨rfl, rfl⟩]; rfl, by simp [cr], fun k b hb => by simp [cr] at hb⟩
  · rintro τ ⟨t1, t2, t3, t4, t5⟩
    have hCt := hC.pr hW t1
    have eo : τ.2.2 0 11 = σ.2.2 0 11 := by rw [t1.2]
    have a0 : τ.1 (σ.2.2 0 11) 0 = nI (sH S) := by rw [← eo]; exact hCt.2.1.1
    refine sg_X0_sendOut_16 ho isN_3 _ (pk_le (sH S) (sH S) (fun _ => ?_) (fun c => by omega) a0 rfl)
    refine hQ1 t4 τ t1 t2 t3 (fun x hx => ?_)
    rw [r0_get hx]
    exact t5 x _ (List.getElem?_eq_getElem hx)
  · rintro h τ hh ⟨t1, t2, t3, t4, t5⟩ ih
    have hCt := hC.pr hW t1
    have eo : τ.2.2 0 11 = σ.2.2 0 11 := by rw [t1.2]
    have a0 : τ.1 (σ.2.2 0 11) 0 = nI (sH S) := by rw [← eo]; exact hCt.2.1.1
    have a1 : τ.1 (σ.2.2 0 11) 1 = nI (sP S) := by rw [← eo]; exact hCt.2.1.2.1
    have hml : mk (fun p => sKp S p == h) (sP S) < 2 ^ 31 := Nat.lt_of_lt_of_le (mk_lt _ _) (pw_le (by omega))
    have hmo := cr_mono S f (h + 1) (sH S - (h + 1))
    rw [show h + 1 + (sH S - (h + 1)) = sH S by omega] at hmo
    rw [cr] at ih hmo
    refine sg_X0_sendOut_16 ho isN_3 _ (pk_le (sH S) h (fun c => by omega) (fun c => ?_) a0 rfl)
    rw [nI_1, t2, a1]
    refine pk_eq h f (fun c2 => ?_) (fun c2 => ?_)
    · rw [if_neg (fun q => q.1 c2)] at ih
      exact ih τ ⟨t1, t2, t3, t4, t5⟩
    · refine c_partsAt hCt hW (by omega) ⟨_, rfl, ?_⟩
      refine pk_eq (mk (fun p => sKp S p == h) (sP S)) 0 (fun c3 => ?_) (fun c3 => ?_)
      · rw [if_neg (fun q => q.2 c3)] at ih
        exact ih τ ⟨t1, t2, t3, t4, t5⟩
      · rw [if_pos ⟨c2, c3⟩] at ih hmo
        rw [List.length_append, List.length_singleton] at hmo
        rw [t3, nI_1]
        refine pk_lt (cr S f h).length 7 (fun c4 => ⟨pk_in (cr S f h).length 20 (by omega), ?_⟩) (fun c4 => hQ0 (by omega) τ t1)
        rw [pk_cl (cr S f h).length rfl (by omega), t2]
        refine ih _ ⟨((t1.wa _ _ s28).wa _ _ s29).si _ _ s27, by rw [bs_geti, if_neg (by omega)]; exact t2, by rw [bs_geti, if_pos ⟨rfl, rfl⟩, List.length_append, List.length_singleton], by rw [List.length_append, List.length_singleton]; omega, fun k b hb => ?_⟩
        show (nh_wa (nh_wa τ 28 _ _) 29 _ _).2.1 28 k = _ ∧ (nh_wa (nh_wa τ 28 _ _) 29 _ _).2.1 29 k = _
        rw [wa_ne _ _ _ (show 28 ≠ 29 by decide), bs_get, bs_get]
        rcases Nat.lt_trichotomy k (cr S f h).length with q | q | q
        · rw [List.getElem?_append_left q] at hb
          rw [if_neg (by omega), if_neg (by omega), wa_ne _ _ _ (show 29 ≠ 28 by decide)]
          exact t5 k b hb
        · subst q
          rw [List.getElem?_append_right (Nat.le_refl _)] at hb
          simp at hb
          rw [if_pos ⟨rfl, rfl⟩, if_pos ⟨rfl, rfl⟩, hb]
          exact ⟨rfl, rfl⟩
        · rw [List.getElem?_eq_none (by rw [List.length_append, List.length_singleton]; omega)] at hb
          cases hb
