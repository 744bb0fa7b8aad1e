/-! THE CLASS: kept -/
theorem frC.pr2 {σ τ : nh_S} (h : frC [84, 85, 86, 97, 98, 99, 100, 101] σ τ) : prC σ τ := h.pr (by intro k hk; simp at hk; unfold sc; omega)
theorem prC.si {σ τ : nh_S} (h : prC σ τ) {k : Nat} (j : Nat) (x : Int32) (hk : sc k) : prC σ (nh_si τ k j x) := ⟨fun i hi => ⟨by rw [si_neK τ j x (fun e => hi (by rw [e]; exact hk))]; exact (h.1 i hi).1, (h.1 i hi).2⟩, h.2⟩
def FF : List Nat := [83, 86, 88, 89, 90, 91, 92, 93, 94, 95, 96, 97]
theorem FF_no {k : Nat} (h : k < 83) : k ∉ FF := by
  intro q
  simp [FF] at q
  omega
theorem FF_row {a : Nat} (h : a < 9) : 88 + a ∈ FF := by
  simp [FF]
  omega
theorem FF_sc : ∀ k ∈ FF, sc k := by
  intro k hk
  simp [FF] at hk
  unfold sc
  omega
theorem frC_find (σ : nh_S) (x : Int32) : frC FF σ (nh_cp (nh_si σ 83 7 x) 4 86 0 0 12) := by
  refine ⟨fun k hk => ⟨?_, ?_⟩, rfl⟩
  · show (nh_si σ 83 7 x).1 k = _
    rw [si_neK _ _ _ (fun e => hk (by rw [e]; simp [FF]))]
  · funext j
    rw [bs_cp, if_neg (fun q => hk (by rw [q.1]; simp [FF]))]
    rfl
/-- while what comes from where is filled in: rows ahead of n, and of row n what is ahead of m -/
def FI (σ τ : nh_S) (S : SP) (f t n m : Nat) : Prop := frC FF σ τ ∧ τ.1 83 7 = nI t ∧ (∀ a, a < n → τ.2.1 97 a = nI a) ∧ (∀ a h, a < n → h < sH S → τ.2.1 (88 + a) h = ot (arr S (fwS S f 0) a h)) ∧ (∀ h, h < m → τ.2.1 (88 + n) h = ot (arr S (fwS S f 0) n h)) ∧ ∀ p, p < sP S → τ.2.1 86 p = nI (sKp S p)
theorem FI_0 {S : SP} {σ : nh_S} (hC : CR σ S) (hW : WF S) (f t : Nat) : FI σ (nh_cp (nh_si σ 83 7 (nI t)) 4 86 0 0 12) S f t 0 0 := by
  have h12 := hW.1.2.1
  refine ⟨frC_find σ _, ?_, fun a ha => by omega, fun a h ha => by omega, fun h hh => by omega, fun p hp => ?_⟩
  · show (nh_si σ 83 7 (nI t)).1 83 7 = _
    rw [bs_geti, if_pos ⟨rfl, rfl⟩]
  · rw [bs_cp, if_pos ⟨rfl, by omega, by omega⟩]
    show σ.2.1 4 (0 + (p - 0)) = _
    rw [show 0 + (p - 0) = p by omega]
    exact (hC.2.2.1.1 p hp).1
theorem FI_end {S : SP} {σ τ : nh_S} (hC : CR σ S) (hW : WF S) {f t : Nat} (hb : bdW S (fwS S f 0)) (h : FI σ τ S f t (sH S) 0) : MW (σ.2.2 0 11) τ S f t := by
  have h9 := hW.1.1
  obtain ⟨h1, h2, h3, h4, -, h6⟩ := h
  have d1 := hC.1.1
  unfold isP at d1
  refine ⟨fun i => i, hC.1.1, ?_, hb, h2, fun i hi => ⟨hi, h3 i hi⟩, fun k hk => ⟨k, hk, rfl⟩, h4, h6⟩
  exact CRc_tr hC.2.1 hW.1 (h1.1 _ (FF_no (by omega))).1 (fun k g1 g2 => (h1.1 k (FF_no (by omega))).2) (fun _ _ => rfl)
set_option maxHeartbeats 1000000 in
theorem c_find {S : SP} {σ : nh_S} (hC : CR σ S) (hW : WF S) {f t : Nat} (hf : f < sH S) (ht : t ≤ 999) (hK : WK σ S (fwS S f 0)) (hb : bdW S (fwS S f 0)) {Q : Option Value → nh_S → Prop} (hQ : ∀ υ, prC σ υ → υ.1 83 0 = ot (kN S f t) → (∀ n, kN S f t = some n → ∀ w, 1 ≤ w → w ≤ 2 * n → (if w % 2 = 1 then υ.2.1 84 ((w - 1) / 2) else υ.2.1 85 ((w - 1) / 2)) = nI (kV S f t w)) → Q none υ) : nh_E kX1_find 0 [some (.ref 83), some (.ref (σ.2.2 0 11)), some (.ref 12), some (.ref 4), some (.int (nI t)), none, none] [] σ Q := by
  have e0 : (0 : Int32).toNatClampNeg = 0 := rfl
  have e12 : (12 : Int32).toNatClampNeg = 12 := rfl
  have hsc : sc 83 := by unfold sc; omega
  have h9 := hW.1.1
  have ho := hC.1.1
  have d1 := ho
  unfold isP at d1
  have hS4 : shC[4]? = some (.inl (.int, 12, none)) := rfl
  refine sg_X1_find_0 ho (a3 := 4) (n3 := 12) hS4 _ ⟨by decide, ?_⟩
  rw [e0, e12]
  have a0 : ∀ {ρ : nh_S}, frC FF σ ρ → ρ.1 (σ.2.2 0 11) 0 = nI (sH S) := fun {ρ} h => by rw [(h.1 _ (FF_no (by omega))).1]; exact hC.2.1.1
  refine nh_loop (α := nh_S) (fun i ρ => nh_E kX1_find 21 [some (.ref 83), some (.ref (σ.2.2 0 11)), some (.ref 12), none, none, some (.int (nI i)), none] [] ρ Q) (fun i ρ => FI σ ρ S f t i 0) (sH S) ?_ ?_ (sH S) 0 _ (by omega) (FI_0 hC hW f t)
  · rintro ρ0 hF
    have p0 : prC σ ρ0 := hF.1.pr FF_sc
    refine sg_X1_find_21 ho (a3 := 4) (n3 := 12) hS4 _ (pk_le (sH S) (sH S) (fun _ => ?_) (fun c => by omega) (a0 hF.1) rfl)
    refine c_isInTime (FI_end hC hW hb hF) hW ht (fun τ t1 t2 => ⟨_, rfl, fun c => ?_, fun c => ?_⟩)
    · have hh0 : ¬ hld S f t = true := fun q => by rw [b01.mp c] at q; cases q
      have p1 : prC σ τ := p0.tr (frC.pr2 (t1.mono (by simp)))
      refine c_moveOne t2 hW ht (i := 0) (lo := 0) (by omega) (by omega) (fun υ u1 u2 u3 => ⟨_, rfl, fun c2 => ?_, fun c2 => ?_⟩)
      · have z := b01.mp c2
        have hm0 : m1 S f t 0 (sP S) = none := by
          cases y : m1 S f t 0 (sP S) with
          | none => rfl
          | some v => rw [y] at z; cases z
        refine c_moveTwo (u2 hm0) hW ht (fun ρ r1 r2 => ⟨_, rfl, ?_⟩)
        have p3 : prC σ ρ := (p1.tr u1.pr2).tr r1.pr2
        dsimp only
        by_cases hs : (m2 S f t (sP S)).isSome = true
        · obtain ⟨x, hx⟩ := Option.isSome_iff_exists.mp hs
          have ek : kN S f t = some 2 := by unfold kN; rw [if_neg hh0, hm0, hx]; rfl
          rw [if_pos hs, if_neg (by decide)]
          refine hQ _ (p3.si _ _ hsc) (by rw [bs_geti, if_pos ⟨rfl, rfl⟩, ek]; rfl) (fun n hn w hw1 hw2 => ?_)
          rw [ek] at hn
          cases hn
          obtain ⟨x1, x2, x3⟩ := r2 x hx
          have hg : (m1 (sUp S 9 x.1 0 x.2) f t (x.1 + 1) (sP S)).isSome = true := by
            have hm2 : ∀ n, ∀ y, m2 S f t n = some y → (m1 (sUp S 9 y.1 0 y.2) f t (y.1 + 1) (sP S)).isSome = true := by
              intro n
              induction n with
              | zero => intro y hy; cases hy
              | succ n ihn =>
                intro y hy
                rw [m2] at hy
                cases hq : m2 S f t n with
                | some y2 => rw [hq] at hy; cases hy; exact ihn _ hq
                | none =>
                  rw [hq] at hy
                  dsimp only at hy
                  cases hg : g2 S f t n (sH S) with
                  | none => rw [hg] at hy; cases hy
                  | some h =>
                    rw [hg] at hy
                    cases hy
                    have hgg : ∀ k, ∀ h, g2 S f t n k = some h → (m1 (sUp S 9 n 0 h) f t (n + 1) (sP S)).isSome = true := by
                      intro k
                      induction k with
                      | zero => intro h hh; cases hh
                      | succ k ihk =>
                        intro h hh
                        rw [g2] at hh
                        cases hq2 : g2 S f t n k with
                        | some h2 => rw [hq2] at hh; cases hh; exact ihk _ hq2
                        | none =>
                          rw [hq2] at hh
                          dsimp only at hh
                          split at hh
                          · rename_i w; cases hh; exact w.2
                          · cases hh
                    exact hgg _ _ hg
            exact hm2 _ x hx
          obtain ⟨y, hy⟩ := Option.isSome_iff_exists.mp hg
          obtain ⟨y1, y2⟩ := x3 y hy
          have kv1 : kV S f t 1 = x.1 := by unfold kV; rw [ek, hx]; rfl
          have kv2 : kV S f t 2 = x.2 := by unfold kV; rw [ek, hx]; rfl
          have kv3 : kV S f t 3 = y.1 := by
            unfold kV; rw [ek, hx]
            show ((m1 (sUp S 9 x.1 0 x.2) f t (x.1 + 1) (sP S)).getD (0, 0)).1 = y.1
            rw [hy]; rfl
          have kv4 : kV S f t 4 = y.2 := by
            unfold kV; rw [ek, hx]
            show ((m1 (sUp S 9 x.1 0 x.2) f t (x.1 + 1) (sP S)).getD (0, 0)).2 = y.2
            rw [hy]; rfl
          rcases (show w = 1 ∨ w = 2 ∨ w = 3 ∨ w = 4 by omega) with rfl | rfl | rfl | rfl
          · rw [kv1]; exact x1
          · rw [kv2]; exact x2
          · rw [kv3]; exact y1
          · rw [kv4]; exact y2
        · have hx : m2 S f t (sP S) = none := by
            cases y : m2 S f t (sP S) with
            | none => rfl
            | some v => rw [y] at hs; exact absurd rfl hs
          have ek : kN S f t = none := by unfold kN; rw [if_neg hh0, hm0, hx]; rfl
          rw [if_neg hs, if_pos rfl]
          exact hQ _ (p3.si _ _ hsc) (by rw [bs_geti, if_pos ⟨rfl, rfl⟩, ek]; rfl) (fun n hn => by rw [ek] at hn; cases hn)
      · have hs : (m1 S f t 0 (sP S)).isSome = true := by
          cases z : (m1 S f t 0 (sP S)).isSome with
          | true => rfl
          | false => exact absurd (b01.mpr z) c2
        obtain ⟨x, hx⟩ := Option.isSome_iff_exists.mp hs
        have ek : kN S f t = some 1 := by unfold kN; rw [if_neg hh0, if_pos hs]
        refine hQ _ ((p1.tr u1.pr2).si _ _ hsc) (by rw [bs_geti, if_pos ⟨rfl, rfl⟩, ek]; rfl) (fun n hn w hw1 hw2 => ?_)
        rw [ek] at hn
        cases hn
        obtain ⟨x1, x2⟩ := u3 x hx
        have kv1 : kV S f t 1 = x.1 := by unfold kV; rw [ek, hx]; rfl
        have kv2 : kV S f t 2 = x.2 := by unfold kV; rw [ek, hx]; rfl
        rcases (show w = 1 ∨ w = 2 by omega) with rfl | rfl
        · rw [kv1]; exact x1
        · rw [kv2]; exact x2
    · have hh0 : hld S f t = true := by
        cases z : hld S f t with
        | true => rfl
        | false => exact absurd (b01.mpr z) c
      have ek : kN S f t = some 0 := by unfold kN; rw [if_pos hh0]
      exact hQ _ ((p0.tr (frC.pr2 (t1.mono (by simp)))).si _ _ hsc) (by rw [bs_geti, if_pos ⟨rfl, rfl⟩, ek]; rfl) (fun n hn w h1 h2 => by rw [ek] at hn; cases hn; omega)
  · rintro i ρ hi hF ih
    refine sg_X1_find_21 ho (a3 := 4) (n3 := 12) hS4 _ (pk_le (sH S) i (fun c => by omega) (fun _ => ⟨pk_in i 9 (by omega), ?_⟩) (a0 hF.1) rfl)
    rw [pk_cl i rfl (by omega)]
    have n97 : ∀ k, k ≠ 97 → (nh_wa ρ 97 i (nI i)).2.1 k = ρ.2.1 k := fun k hk => wa_ne _ _ _ hk
    refine nh_loop (α := nh_S) (fun h υ => nh_E kX1_find 42 [some (.ref 83), some (.ref (σ.2.2 0 11)), some (.ref 12), none, none, some (.int (nI i)), some (.int (nI h))] [] υ Q) (fun h υ => FI σ υ S f t i h ∧ υ.2.1 97 i = nI i) (sH S) ?_ ?_ (sH S) 0 _ (by omega) ⟨⟨hF.1.wa _ _ (by simp [FF]), hF.2.1, fun a ha => ?_, fun a h ha hh => ?_, fun h hh => by omega, fun p hp => ?_⟩, ?_⟩
    · rintro υ ⟨⟨u1, u2, u3, u4, u5, u6⟩, u7⟩
      refine sg_X1_find_42 ho (a3 := 4) (n3 := 12) hS4 _ _ (pk_le (sH S) (sH S) (fun _ => ?_) (fun c => by omega) (a0 u1) rfl)
      rw [nI_1]
      refine ih υ ⟨u1, u2, fun a ha => ?_, fun a h ha hh => ?_, fun h hh => by omega, u6⟩
      · by_cases e : a = i
        · rw [e]; exact u7
        · exact u3 a (by omega)
      · by_cases e : a = i
        · rw [e]; exact u5 h hh
        · exact u4 a h (by omega) hh
    · rintro h υ hh ⟨⟨u1, u2, u3, u4, u5, u6⟩, u7⟩ ih2
      have hCu : CRc υ (σ.2.2 0 11) S := CRc_tr hC.2.1 hW.1 (u1.1 _ (FF_no (by omega))).1 (fun k g1 g2 => (u1.1 k (FF_no (by omega))).2) (fun _ _ => rfl)
      have hKu : WK υ S (fwS S f 0) := WK_pr hK (u1.1 13 (FF_no (by omega))).2 (u1.1 14 (FF_no (by omega))).2 (u1.1 15 (FF_no (by omega))).2
      refine sg_X1_find_42 ho (a3 := 4) (n3 := 12) hS4 _ _ (pk_le (sH S) h (fun c => by omega) (fun _ => ⟨pk_in i 9 (by omega), ?_⟩) (a0 u1) rfl)
      refine c_arrival ho hCu hW.1 hKu hb hh hi ⟨_, rfl, pk_in h 9 (by omega), ?_⟩
      rw [pk_cl i rfl (by omega), pk_cl h rfl (by omega), nI_1]
      have nr : ∀ k, k ≠ 88 + i → (nh_wa υ (88 + i) h (ot (arr S (fwS S f 0) i h))).2.1 k = υ.2.1 k := fun k hk => wa_ne _ _ _ hk
      refine ih2 _ ⟨⟨u1.wa _ _ (FF_row (by omega)), u2, fun a ha => ?_, fun a g ha hg => ?_, fun g hg => ?_, fun p hp => ?_⟩, ?_⟩
      · rw [nr 97 (by omega)]; exact u3 a ha
      · rw [nr (88 + a) (by omega)]; exact u4 a g ha hg
      · rw [bs_get]
        by_cases e : g = h
        · rw [if_pos ⟨rfl, e⟩, e]
        · rw [if_neg (fun z => e z.2)]
          exact u5 g (by omega)
      · rw [nr 86 (by omega)]; exact u6 p hp
      · rw [nr 97 (by omega)]; exact u7
    · rw [bs_get, if_neg (by omega)]; exact hF.2.2.1 a ha
    · rw [n97 _ (by omega)]; exact hF.2.2.2.1 a h ha hh
    · rw [n97 _ (by omega)]; exact hF.2.2.2.2.2 p hp
    · rw [bs_get, if_pos ⟨rfl, rfl⟩]
theorem c_kept {S : SP} {σ : nh_S} (hC : CR σ S) (hW : WF S) (x y z : Int32) {Q : Option Value → nh_S → Prop} (hQ : ∀ τ, CR τ S → Q (some (.int (aKept S x y z))) τ) : nh_E kX8_kept 0 [some (.ref 0), some (.int x), some (.int y), some (.int z), none] [] σ Q := by
  have h9 := hW.1.1
  unfold aKept at hQ
  refine sg_X8_kept_0 x y z ⟨hC.1.1, ?_⟩
  rw [hC.2.1.1, ix_cls (by omega)]
  rcases ix_cases x (n := sH S) (by omega) with ⟨f, hf, rfl, e⟩ | ⟨e, hx⟩
  · refine ⟨fun _ => ?_, fun c => absurd ⟨f, hf, rfl⟩ c⟩
    rcases ix_cases y (n := 1000) (by omega) with ⟨t, ht, rfl, e2⟩ | ⟨e2, hy⟩
    · refine ⟨fun z => absurd z (nI_pos (by omega)), fun _ => ⟨fun z => absurd z (by rw [show (999 : Int32) = nI 999 from rfl, nI_ltI (by omega) (by omega)]; omega), fun _ => ?_⟩⟩
      rcases ix_cases z (n := 5) (by omega) with ⟨w, hw, rfl, e3⟩ | ⟨e3, hz⟩
      · rw [e, e2, e3] at hQ
        dsimp only at hQ
        refine ⟨fun z => absurd z (nI_pos (by omega)), fun _ => ⟨fun _ => ⟨hC.1.2.2.2.1.L, ?_⟩, fun z => absurd (by rw [show (4 : Int32) = nI 4 from rfl]; exact nI_le (by omega) (by omega)) z⟩⟩
        refine c_wakeBy hC hW hf (awm := 0) (by omega) (fun τ t1 t2 t3 t4 => ⟨rfl, t2.1.1, ?_⟩)
        refine c_find t2 hW hf (by omega) t3 t4 (fun υ u1 u2 u3 => ⟨rfl, ?_⟩)
        have h := hQ υ (t2.pr hW u1)
        by_cases e5 : w = 0
        · rw [if_pos e5] at h
          subst e5
          refine ⟨fun c => absurd rfl c, fun _ => ?_⟩
          rw [u2]
          exact h
        · rw [if_neg e5] at h
          refine ⟨fun _ => ?_, fun c => absurd c (nI_ne0 (by omega) (by omega))⟩
          have ep : nI w - 1 = nI (w - 1) := by
            have := nI_pred (w - 1)
            rw [show w - 1 + 1 = w by omega] at this
            exact this
          have ed : (nI w - 1) / 2 = nI ((w - 1) / 2) := by
            rw [ep, show (2 : Int32) = nI 2 from rfl, pk_div (by omega) (by omega) (by omega)]
          have er : nI w - nI w / 2 * 2 = nI (w % 2) := by
            rw [show (2 : Int32) = nI 2 from rfl, pk_rem (by omega) (by omega) (by omega)]
          rw [ed, er, u2, pk_cl ((w - 1) / 2) rfl (by omega)]
          have h1 : (nI (w % 2) = 1) ↔ w % 2 = 1 := by
            rw [show (1 : Int32) = nI 1 from rfl, nI_eq (by omega) (by omega)]
          have eif : ∀ A B : Int32, (if nI (w % 2) = 1 then A else B) = if w % 2 = 1 then A else B := fun A B => by
            by_cases q : w % 2 = 1
            · rw [if_pos q, if_pos (h1.mpr q)]
            · rw [if_neg q, if_neg (fun z => q (h1.mp z))]
          rw [eif]
          cases hk : kN S f t with
          | none =>
            rw [hk] at h
            dsimp only [Option.getD] at h
            rw [if_neg (by omega)] at h
            refine ⟨fun c => ?_, fun _ => h⟩
            exfalso
            rw [Int32.lt_iff_toInt_lt, nI_toInt (by omega), show (ot none).toInt = -1 from rfl] at c
            omega
          | some n =>
            have hn := kN_le S f t n hk
            rw [hk] at h
            dsimp only [Option.getD] at h
            rw [ot_some]
            refine pk_lt ((w - 1) / 2) n (fun c => ⟨⟨fun _ => pk_in ((w - 1) / 2) 2 (by omega), fun _ => pk_in ((w - 1) / 2) 2 (by omega)⟩, ?_⟩) (fun c => ?_)
            · rw [if_pos (by omega)] at h
              rw [u3 n hk w (by omega) (by omega)]
              exact h
            · rw [if_neg (by omega)] at h
              exact h
      · rw [e, e2, e3] at hQ
        refine ⟨fun _ => hQ _ hC, fun c1 => ⟨fun c2 => ?_, fun _ => hQ _ hC⟩⟩
        exfalso
        obtain ⟨h, hh, q⟩ := (ix_lit (x := z) (n := 4) (by omega)).mp ⟨c1, fun c3 => (fa_of_lt c3).2.1 c2⟩
        exact hz h (by omega) q
    · rw [e, e2] at hQ
      refine ⟨fun _ => hQ _ hC, fun c1 => ⟨fun _ => hQ _ hC, fun c2 => ?_⟩⟩
      exfalso
      obtain ⟨h, hh, q⟩ := (ix_lit (x := y) (n := 999) (by omega)).mp ⟨c1, c2⟩
      exact hy h (by omega) q
  · rw [e] at hQ
    exact ⟨fun c => absurd (fun ⟨h, hh, q⟩ => hx h hh q) c, fun _ => hQ _ hC⟩
