/-! feed: bytes of a long -/
def byB (x : Int64) (k : Nat) : Nat := x.toBitVec.toNat / 2 ^ (8 * k) % 256
theorem byB_lt (x : Int64) (k : Nat) : byB x k < 256 := Nat.mod_lt _ (by omega)
theorem by_s1 : ∀ k, k < 8 → (((8 * nI k).toInt64 &&& 63).toBitVec.smod 64).toNat = 8 * k := by decide +kernel
theorem by_s2 : ∀ k, k < 8 → (((8 * nI k).toInt64.toUInt64 &&& Int64.toUInt64 63).toBitVec % 64).toNat = 8 * k := by decide +kernel
theorem by_c255 (i : Nat) (hi : i < 64) : (255 : Int64).toBitVec.getLsbD i = decide (i < 8) := by
  have h : ∀ i, i < 64 → (255 : Int64).toBitVec.getLsbD i = decide (i < 8) := by decide +kernel
  exact h i hi
theorem by_fin (x : Int64) (k : Nat) (hk : k < 8) (v : Int64) (hv : ∀ i, i < 8 → v.toBitVec.getLsbD i = x.toBitVec.getLsbD (8 * k + i)) : (v &&& 255).toInt32 = nI (byB x k) := by
  apply Int32.toBitVec_inj.mp
  apply BitVec.eq_of_getLsbD_eq
  intro i hi
  show ((v &&& 255).toBitVec.signExtend 32).getLsbD i = (BitVec.ofNat 32 (byB x k)).getLsbD i
  rw [BitVec.getLsbD_signExtend, Int64.toBitVec_and, BitVec.getLsbD_and, by_c255 i (by omega), BitVec.getLsbD_ofNat]
  unfold byB
  rw [show 256 = 2 ^ 8 from rfl, Nat.testBit_mod_two_pow, Nat.testBit_div_two_pow]
  by_cases c : i < 8
  · rw [hv i c]
    simp [hi, c, show i < 64 by omega, Nat.add_comm]
    rfl
  · simp [hi, c, show i < 64 by omega]
theorem by_s (x : Int64) {k : Nat} (hk : k < 8) : ((x >>> ((8 * nI k).toInt64 &&& 63)) &&& 255).toInt32 = nI (byB x k) := by
  apply by_fin x k hk
  intro i hi
  rw [Int64.toBitVec_shiftRight, BitVec.sshiftRight', by_s1 k hk, BitVec.getLsbD_sshiftRight]
  simp [show ¬ 64 ≤ i by omega, show 8 * k + i < 64 by omega]
theorem by_u (x : Int64) {k : Nat} (hk : k < 8) : (((x.toUInt64 >>> ((8 * nI k).toInt64.toUInt64 &&& Int64.toUInt64 63)).toInt64) &&& 255).toInt32 = nI (byB x k) := by
  apply by_fin x k hk
  intro i hi
  show ((x.toUInt64 >>> ((8 * nI k).toInt64.toUInt64 &&& Int64.toUInt64 63)).toBitVec).getLsbD i = _
  rw [UInt64.toBitVec_shiftRight, BitVec.ushiftRight_eq', by_s2 k hk, BitVec.getLsbD_ushiftRight]
  rfl
/-- n bytes behind THE TEXT -/
def nFd (S : SP) (n : Nat) (x : Int64) : SP := fun t i j => if t = 19 ∧ i = 0 ∧ j = 0 then sTn S + n else if t = 20 ∧ j = 0 ∧ sTn S ≤ i ∧ i < sTn S + n then byB x (n - 1 - (i - sTn S)) else S t i j
def nFeed (S : SP) (x : Int32) (y : Int64) : SP := match ix x 9 with
  | none => S
  | some n => if n = 0 then S else if sTn S + n ≤ 600 then nFd S n y else S
def aFeed (S : SP) (x : Int32) : Int32 := match ix x 9 with
  | none => -1000002
  | some n => if n = 0 then -1000002 else if sTn S + n ≤ 600 then nI (sTn S + n) else -1000004
theorem nFd_ne (S : SP) (n : Nat) (x : Int64) {t : Nat} (h1 : t ≠ 19) (h2 : t ≠ 20) : nFd S n x t = S t := by funext i j; unfold nFd; rw [if_neg (by omega), if_neg (by omega)]
theorem nFd_n (S : SP) (n : Nat) (x : Int64) : sTn (nFd S n x) = sTn S + n := by simp [nFd, sTn]
theorem nFd_x (S : SP) (n : Nat) (x : Int64) (i : Nat) : sTx (nFd S n x) i = if sTn S ≤ i ∧ i < sTn S + n then byB x (n - 1 - (i - sTn S)) else sTx S i := by
  simp [nFd, sTx]
theorem r_feed {S : SP} {σ : nh_S} (hR : RR σ S) (hW : WF S) (x : Int32) (y : Int64) {Q : Option Value → nh_S → Prop} (hQ : ∀ τ, RR τ (nFeed S x y) → Q (some (.int (aFeed S x))) τ) : nh_E kX9_feed 0 [some (.ref 0), some (.int x), some (.long y), none, none] [] σ Q := by
  have hn := hW.2.2.2.2.2.1
  unfold nFeed aFeed at hQ
  refine sg_X9_feed_0 x y ?_
  rcases ix_cases x (n := 9) (by omega) with ⟨n, hn9, rfl, e⟩ | ⟨e, hx⟩
  · rw [e] at hQ
    dsimp only at hQ
    by_cases h0 : n = 0
    · subst h0
      rw [if_pos rfl, if_pos rfl] at hQ
      exact ⟨fun c => absurd (by decide) c.1, fun _ => hQ _ hR⟩
    · rw [if_neg h0, if_neg h0] at hQ
      have hc : ¬ (nI n < 1) ∧ ¬ (8 < nI n) := by
        rw [show (1 : Int32) = nI 1 from rfl, show (8 : Int32) = nI 8 from rfl, nI_ltI (by omega) (by omega), nI_ltI (by omega) (by omega)]
        omega
      refine ⟨fun _ => ?_, fun c => absurd hc c⟩
      rw [hR.2.2.2.2.2.1, nI_add]
      refine pk_le (sTn S + n) 600 (fun c => ?_) (fun c => ?_)
      · rw [if_pos c, if_pos c] at hQ
        have e1 : nI n - 1 = nI (n - 1) := by
          have := nI_pred (n - 1)
          rw [show n - 1 + 1 = n by omega] at this
          exact this
        have loop : ∀ (k m : Nat) (τ : nh_S), k + m = n → (∀ j, j ≠ 16 → τ.1 0 j = σ.1 0 j) → (∀ j, j ≠ 13 → τ.2.1 j = σ.2.1 j) → τ.1 0 16 = nI (sTn S + m) → (∀ i, i < sTn S + m → τ.2.1 13 i = nI (sTx (nFd S n y) i)) → nh_E kX9_feed 35 [some (.ref 0), none, some (.long y), none, some (.int (nI k + (-1)))] [] τ Q := by
          intro k
          induction k with
          | zero =>
            intro m τ hk t1 t2 t3 t4
            have em : m = n := by omega
            subst em
            refine sg_X9_feed_35 _ _ ⟨fun _ => ?_, fun q => absurd (show nI 0 + (-1) < 0 by decide) q⟩
            rw [t3]
            obtain ⟨g1, g2, g3, g4, g5, g6⟩ := hR
            have g := fun t a b => nFd_ne S m y (t := t) a b
            refine hQ τ ⟨RRc_tr g1 (t2 3 (by omega)) (t2 6 (by omega)) (t2 7 (by omega)) (t2 8 (by omega)) (t2 9 (by omega)) (t2 14 (by omega)) (fun t ht => g t (by omega) (by omega)), RRm_tr g2 (fun i _ => by rw [t2 1 (by omega)]) hW.1.2.1 (g 1 (by omega) (by omega)) (g 9 (by omega) (by omega)) (g 10 (by omega) (by omega)) (g 11 (by omega) (by omega)) (g 12 (by omega) (by omega)), RRp_tr g3 (t1 11 (by omega)) (t2 10 (by omega)) (t2 11 (by omega)) (g 16 (by omega) (by omega)) (g 17 (by omega) (by omega)) (g 18 (by omega) (by omega)), RRx_tr g4 (t1 14 (by omega)) (t1 37 (by omega)) (t2 12 (by omega)) (t2 26 (by omega)) (g 1 (by omega) (by omega)) (g 13 (by omega) (by omega)) (g 14 (by omega) (by omega)) (g 15 (by omega) (by omega)), RRi_tr g5 (fun i _ => by rw [t2 2 (by omega)]) (fun i _ => by rw [t2 1 (by omega)]) (g 1 (by omega) (by omega)) (g 22 (by omega) (by omega)) (g 23 (by omega) (by omega)) (g 24 (by omega) (by omega)) (g 25 (by omega) (by omega)) (g 26 (by omega) (by omega)), ?_, fun i hi => ?_, ?_⟩
            · rw [t3, nFd_n]
            · rw [nFd_n] at hi
              exact t4 i hi
            · rw [t1 21 (by omega), g6.2.2]
              unfold sFa
              rw [g 21 (by omega) (by omega)]
          | succ k ih =>
            intro m τ hk t1 t2 t3 t4
            rw [pk_m1]
            refine sg_X9_feed_35 _ _ ⟨fun q => absurd q (nI_pos (by omega)), fun _ => ?_⟩
            rw [t3, pk_cl (sTn S + m) rfl (by omega), by_s y (by omega), nI_1]
            refine ⟨pk_in (sTn S + m) 600 (by omega), ih (m + 1) _ (by omega) (fun j hj => ?_) (fun j hj => ?_) ?_ (fun i hi => ?_)⟩
            · rw [si_ne _ 0 16 _ hj]; exact t1 j hj
            · show (nh_wa τ 13 _ _).2.1 j = _
              rw [wa_ne _ _ _ hj]; exact t2 j hj
            · rw [bs_geti, if_pos ⟨rfl, rfl⟩]; rfl
            · show (nh_wa τ 13 _ _).2.1 13 i = _
              rw [bs_get]
              by_cases e2 : i = sTn S + m
              · rw [if_pos ⟨rfl, e2⟩, nFd_x, if_pos (by omega), show n - 1 - (i - sTn S) = k by omega]
              · rw [if_neg (fun z => e2 z.2)]
                exact t4 i (by omega)
        rw [e1]
        have h := loop n 0 σ (by omega) (fun _ _ => rfl) (fun _ _ => rfl) hR.2.2.2.2.2.1 (fun i hi => by rw [nFd_x, if_neg (by omega)]; exact hR.2.2.2.2.2.2.1 i (by omega))
        have e2 : nI n + (-1) = nI (n - 1) := by
          have := pk_m1 (n - 1)
          rw [show n - 1 + 1 = n by omega] at this
          exact this
        rw [e2] at h
        exact h
      · rw [if_neg (by omega), if_neg (by omega)] at hQ
        exact hQ _ hR
  · rw [e] at hQ
    refine ⟨fun c => ?_, fun _ => hQ _ hR⟩
    exfalso
    rw [show (8 : Int32) = nI 8 from rfl] at c
    have h2 : ¬ (x < 0) := fun q => c.1 (by
      rw [Int32.lt_iff_toInt_lt] at q ⊢
      rw [show (0 : Int32).toInt = 0 from rfl] at q
      rw [show (1 : Int32).toInt = 1 from rfl]
      omega)
    obtain ⟨h, hh, q⟩ := (ix_lit (by omega)).mp ⟨h2, c.2⟩
    exact hx h (by omega) q
