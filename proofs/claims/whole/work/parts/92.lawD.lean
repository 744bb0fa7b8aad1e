/-! WHAT IS KNOWN at the law's start -/
theorem ks_D {p : Program} {s : State} {m : MethodId} {meth : Method} {c : Code} {b L : Nat} {xs : Nat → Int32} (C0 : lw_At p s m meth c b L xs) : ∃ D : va_G, ∀ (k : Nat) (q : vw_C), vwCl[k]? = some q → u_Kn s q.1 q.2.1 q.2.2 (D.1 k) (D.2 k) := by
  have h : ∀ k : Nat, ∃ z : ClassId × (Nat → Nat), ∀ q : vw_C, vwCl[k]? = some q → u_Kn s q.1 q.2.1 q.2.2 z.1 z.2 := by
    intro k
    match k with
    | 0 =>
      obtain ⟨c0, iS, hk⟩ := u_known (C := RX0) (T := TX0) (N := 4) (n := 4) (ql_tb C0) ciX0.2.1 (ql_tb C0 _ (nh_in (i := 207) (by decide +kernel) rfl))
      exact ⟨(c0, iS), fun q hq => by cases hq; exact hk⟩
    | 1 =>
      obtain ⟨c0, iS, hk⟩ := u_known (C := RX1) (T := TX1) (N := 8) (n := 8) (ql_tb C0) ciX1.2.1 (ql_tb C0 _ (nh_in (i := 252) (by decide +kernel) rfl))
      exact ⟨(c0, iS), fun q hq => by cases hq; exact hk⟩
    | 2 =>
      obtain ⟨c0, iS, hk⟩ := u_known (C := RX2) (T := TX2) (N := 5) (n := 5) (ql_tb C0) ciX2.2.1 (ql_tb C0 _ (nh_in (i := 128) (by decide +kernel) rfl))
      exact ⟨(c0, iS), fun q hq => by cases hq; exact hk⟩
    | 3 =>
      obtain ⟨c0, iS, hk⟩ := u_known (C := RX3) (T := TX3) (N := 10) (n := 10) (ql_tb C0) ciX3.2.1 (ql_tb C0 _ (nh_in (i := 290) (by decide +kernel) rfl))
      exact ⟨(c0, iS), fun q hq => by cases hq; exact hk⟩
    | 4 =>
      obtain ⟨c0, iS, hk⟩ := u_known (C := RX4) (T := TX4) (N := 3) (n := 3) (ql_tb C0) ciX4.2.1 (ql_tb C0 _ (nh_in (i := 213) (by decide +kernel) rfl))
      exact ⟨(c0, iS), fun q hq => by cases hq; exact hk⟩
    | 5 =>
      obtain ⟨c0, iS, hk⟩ := u_known (C := RX5) (T := TX5) (N := 5) (n := 5) (ql_tb C0) ciX5.2.1 (ql_tb C0 _ (nh_in (i := 180) (by decide +kernel) rfl))
      exact ⟨(c0, iS), fun q hq => by cases hq; exact hk⟩
    | 6 =>
      obtain ⟨c0, iS, hk⟩ := u_known (C := RX6) (T := TX6) (N := 6) (n := 6) (ql_tb C0) ciX6.2.1 (ql_tb C0 _ (nh_in (i := 97) (by decide +kernel) rfl))
      exact ⟨(c0, iS), fun q hq => by cases hq; exact hk⟩
    | 7 =>
      obtain ⟨c0, iS, hk⟩ := u_known (C := RX7) (T := TX7) (N := 5) (n := 5) (ql_tb C0) ciX7.2.1 (ql_tb C0 _ (nh_in (i := 157) (by decide +kernel) rfl))
      exact ⟨(c0, iS), fun q hq => by cases hq; exact hk⟩
    | 8 =>
      obtain ⟨c0, iS, hk⟩ := u_known (C := RX8) (T := TX8) (N := 17) (n := 17) (ql_tb C0) ciX8.2.1 (ql_tb C0 _ (nh_in (i := 89) (by decide +kernel) rfl))
      exact ⟨(c0, iS), fun q hq => by cases hq; exact hk⟩
    | 9 =>
      obtain ⟨c0, iS, hk⟩ := u_known (C := RX9) (T := TX9) (N := 39) (n := 39) (ql_tb C0) ciX9.2.1 (ql_tb C0 _ (nh_in (i := 924) (by decide +kernel) rfl))
      exact ⟨(c0, iS), fun q hq => by cases hq; exact hk⟩
    | k + 10 => exact ⟨(0, fun _ => 0), fun q hq => by simp [vwCl] at hq⟩
  obtain ⟨f, hf⟩ := Classical.axiomOfChoice h
  exact ⟨(fun k => (f k).1, fun k => (f k).2), fun k q hq => hf k q hq⟩
theorem ks_A {p : Program} {s : State} {m : MethodId} {meth : Method} {c : Code} {b L : Nat} {xs : Nat → Int32} (C0 : lw_At p s m meth c b L xs) : ∃ tA : FieldType → ClassId, ∀ (k : Nat) (q : ClassId × FieldType), (nh_ty tA)[k]? = some q → ArrOfT s q.1 q.2 ∧ va_RA s q.1 q.2 := by
  obtain ⟨c1, k1, p1, a1, b1, d1⟩ := Cond.arrayClass_spec (args := #[Value.ref b]) (first := s) (o := none) (idx := []) (type := .int) (C0.2.2.2.2.2.1 _ (List.mem_of_getElem? (i := 155) (by decide +kernel)))
  obtain ⟨c2, k2, p2, a2, b2, d2⟩ := Cond.arrayClass_spec (args := #[Value.ref b]) (first := s) (o := none) (idx := []) (type := .char) (C0.2.2.2.2.2.1 _ (List.mem_of_getElem? (i := 126) (by decide +kernel)))
  obtain ⟨c3, k3, p3, a3, b3, d3⟩ := Cond.arrayClass_spec (args := #[Value.ref b]) (first := s) (o := none) (idx := []) (type := .boolean) (C0.2.2.2.2.2.1 _ (List.mem_of_getElem? (i := 1047) (by decide +kernel)))
  obtain ⟨p4, c4, k4, -, -, b4, d4, a4⟩ := arrayOver_specB (args := #[Value.ref b]) (first := s) (o := none) (idx := []) (t := .int) (C0.2.2.2.2.2.1 _ (List.mem_of_getElem? (i := 258) (by decide +kernel)))
  refine ⟨fun ty => match ty with | .int => c1 | .char => c2 | .boolean => c3 | _ => c4, fun k q hq => ?_⟩
  match k with
  | 0 => cases hq; exact ⟨fun n z => ⟨fun k h => (by cases h), k1, b1, p1, d1⟩, a1⟩
  | 1 => cases hq; exact ⟨fun n z => ⟨fun k h => (by cases h), k2, b2, p2, d2⟩, a2⟩
  | 2 => cases hq; exact ⟨fun n z => ⟨fun k h => (by cases h), k3, b3, p3, d3⟩, a3⟩
  | 3 => cases hq; exact ⟨fun n z => ⟨fun k h => (by cases h), k4, b4, p4, d4⟩, a4⟩
  | k + 4 => simp [nh_ty] at hq
theorem ks_X {p : Program} {s : State} {m : MethodId} {meth : Method} {c : Code} {b L : Nat} {xs : Nat → Int32} (C0 : lw_At p s m meth c b L xs) : ∃ ad : Nat → Nat, nh_X ad (qA s) s := by
  have hs := flat_of_before _ C0.2.2.2.2.2.2.2.2.2
  have hA : ∀ a : Nat, a < s.heap.size → ¬ qA s a := fun a h => Nat.not_le.mpr h
  have f5 : ∀ i : Nat, i < 5 → i = 0 ∨ i = 1 ∨ i = 2 ∨ i = 3 ∨ i = 4 := fun i hi => by omega
  obtain ⟨adK, adV, hS, hE⟩ := vk_Sof (args := #[Value.ref b]) (s := s) (N := 5) (tm := fun i => [.string "NineHouses$Parish" 47, .string "NineHouses$Parish" 57, .string "NineHouses$Parish" 62, .string "NineHouses$Parish" 115, .string "NineHouses$Plan" 28].getD i (.int 0)) (len := nh_len) (byt := nh_byt) (A := qA s) (by decide)
    (fun i hi => by rcases f5 i hi with rfl | rfl | rfl | rfl | rfl <;> exact hs _ (by decide +kernel))
    (fun i hi => by rcases f5 i hi with rfl | rfl | rfl | rfl | rfl <;> exact hs _ (by decide +kernel))
    (fun i hi => by rcases f5 i hi with rfl | rfl | rfl | rfl | rfl <;> exact hs _ (by decide +kernel))
    (fun i hi => by rcases f5 i hi with rfl | rfl | rfl | rfl | rfl <;> exact hs _ (by decide +kernel))
    (fun i hi j hj => by
      have h5 : j < 5 := by rcases f5 i hi with rfl | rfl | rfl | rfl | rfl <;> simp [nh_len] at hj <;> omega
      rcases f5 i hi with rfl | rfl | rfl | rfl | rfl <;> rcases f5 j h5 with rfl | rfl | rfl | rfl | rfl <;> first | exact hs _ (by decide +kernel) | (simp [nh_len] at hj))
    (fun i j hi hj hne => by
      rcases f5 i hi with rfl | rfl | rfl | rfl | rfl <;> rcases f5 j hj with rfl | rfl | rfl | rfl | rfl <;> first | exact absurd rfl hne | exact Or.inl (hs _ (by decide +kernel)) | exact Or.inr (hs _ (by decide +kernel))) hA
  have z1 : va_Z "java/lang/String" "COMPACT_STRINGS" "Z" (.int 1) (qA s) s s.heap := va_Zof (C0.2.2.2.2.2.1 _ (List.mem_of_getElem? (i := 471) (by decide +kernel))) (C0.2.2.2.2.2.1 _ (List.mem_of_getElem? (i := 81) (by decide +kernel))) (va_eqt (hs _ (by decide +kernel))) hA
  obtain ⟨v, hv, hv2⟩ := Cond.isRef_spec (args := #[Value.ref b]) (first := s) (o := none) (s := s) (idx := []) (t := .static "jdk/internal/util/Preconditions" "SIOOBE_FORMATTER" "Ljava/util/function/BiFunction;") (hs _ (by decide +kernel))
  have z2 : ∃ a : Nat, va_Z "jdk/internal/util/Preconditions" "SIOOBE_FORMATTER" "Ljava/util/function/BiFunction;" .null (qA s) s s.heap ∨ va_Z "jdk/internal/util/Preconditions" "SIOOBE_FORMATTER" "Ljava/util/function/BiFunction;" (.ref a) (qA s) s s.heap := by
    cases v with
    | null => exact ⟨0, Or.inl (va_Zof (C0.2.2.2.2.2.1 _ (List.mem_of_getElem? (i := 487) (by decide +kernel))) (C0.2.2.2.2.2.1 _ (List.mem_of_getElem? (i := 83) (by decide +kernel))) hv hA)⟩
    | ref a => exact ⟨a, Or.inr (va_Zof (C0.2.2.2.2.2.1 _ (List.mem_of_getElem? (i := 487) (by decide +kernel))) (C0.2.2.2.2.2.1 _ (List.mem_of_getElem? (i := 83) (by decide +kernel))) hv hA)⟩
    | _ => cases hv2
  obtain ⟨a, z2⟩ := z2
  refine ⟨fun k => if k < 910 then adK (k - 900) else if k < 920 then adV (k - 910) else a, ?_, ?_, z1, ?_, ?_⟩
  · refine ⟨fun i hi => ?_, fun i j hi hj h => ?_⟩
    · have h := hS.1 i hi
      dsimp only
      rw [if_pos (by omega), if_neg (by omega), if_pos (by omega), Nat.add_sub_cancel_left, Nat.add_sub_cancel_left]
      exact h
    · dsimp only at h
      rw [if_pos (by omega), if_pos (by omega), Nat.add_sub_cancel_left, Nat.add_sub_cancel_left] at h
      exact hS.2 i j hi hj h
  · intro q hq
    simp only [nh_txt, List.mem_cons, List.mem_nil_iff, or_false] at hq
    rcases hq with rfl | rfl | rfl | rfl | rfl
    · exact vk_R.of (A := #[Value.ref b]) (C0.2.2.2.2.2.1 _ (List.mem_of_getElem? (i := 454) (by decide +kernel))) (hE 0 (by omega))
    · exact vk_R.of (A := #[Value.ref b]) (C0.2.2.2.2.2.1 _ (List.mem_of_getElem? (i := 538) (by decide +kernel))) (hE 1 (by omega))
    · exact vk_R.of (A := #[Value.ref b]) (C0.2.2.2.2.2.1 _ (List.mem_of_getElem? (i := 544) (by decide +kernel))) (hE 2 (by omega))
    · exact vk_R.of (A := #[Value.ref b]) (C0.2.2.2.2.2.1 _ (List.mem_of_getElem? (i := 549) (by decide +kernel))) (hE 3 (by omega))
    · exact vk_R.of (A := #[Value.ref b]) (C0.2.2.2.2.2.1 _ (List.mem_of_getElem? (i := 578) (by decide +kernel))) (hE 4 (by omega))
  · dsimp only
    rw [if_neg (by omega), if_neg (by omega)]
    exact z2
  · intro q hq
    simp only [nh_nst, List.mem_cons, List.mem_nil_iff, or_false] at hq
    rcases hq with rfl | rfl | rfl | rfl | rfl | rfl | rfl | rfl
    · exact va_Nw.of rfl (A := #[Value.ref b]) (C0.2.2.2.2.2.1 _ (List.mem_of_getElem? (i := 762) (by decide +kernel)))
    · exact va_Nw.of rfl (A := #[Value.ref b]) (C0.2.2.2.2.2.1 _ (List.mem_of_getElem? (i := 770) (by decide +kernel)))
    · exact va_Nw.of rfl (A := #[Value.ref b]) (C0.2.2.2.2.2.1 _ (List.mem_of_getElem? (i := 793) (by decide +kernel)))
    · exact va_Nw.of rfl (A := #[Value.ref b]) (C0.2.2.2.2.2.1 _ (List.mem_of_getElem? (i := 687) (by decide +kernel)))
    · exact va_Nw.of rfl (A := #[Value.ref b]) (C0.2.2.2.2.2.1 _ (List.mem_of_getElem? (i := 554) (by decide +kernel)))
    · exact va_Nw.of rfl (A := #[Value.ref b]) (C0.2.2.2.2.2.1 _ (List.mem_of_getElem? (i := 876) (by decide +kernel)))
    · exact va_Nw.of rfl (A := #[Value.ref b]) (C0.2.2.2.2.2.1 _ (List.mem_of_getElem? (i := 692) (by decide +kernel)))
    · exact va_Nw.of rfl (A := #[Value.ref b]) (C0.2.2.2.2.2.1 _ (List.mem_of_getElem? (i := 661) (by decide +kernel)))
theorem ks_G {p : Program} {s : State} {m : MethodId} {meth : Method} {c : Code} {b L : Nat} {xs : Nat → Int32} (C0 : lw_At p s m meth c b L xs) : ng_X s := by
  refine ⟨fun q hq => ?_, arrayOver_alikeB (Vm.Alike.refl _) (C0.2.2.2.2.2.1 _ (List.mem_of_getElem? (i := 258) (by decide +kernel)))⟩
  simp only [ng_nst, List.mem_cons, List.mem_nil_iff, or_false] at hq
  rcases hq with rfl | rfl | rfl | rfl | rfl | rfl | rfl | rfl | rfl | rfl
  · exact va_Nw.of rfl (A := #[Value.ref b]) (C0.2.2.2.2.2.1 _ (List.mem_of_getElem? (i := 98) (by decide +kernel)))
  · exact va_Nw.of rfl (A := #[Value.ref b]) (C0.2.2.2.2.2.1 _ (List.mem_of_getElem? (i := 129) (by decide +kernel)))
  · exact va_Nw.of rfl (A := #[Value.ref b]) (C0.2.2.2.2.2.1 _ (List.mem_of_getElem? (i := 158) (by decide +kernel)))
  · exact va_Nw.of rfl (A := #[Value.ref b]) (C0.2.2.2.2.2.1 _ (List.mem_of_getElem? (i := 181) (by decide +kernel)))
  · exact va_Nw.of rfl (A := #[Value.ref b]) (C0.2.2.2.2.2.1 _ (List.mem_of_getElem? (i := 208) (by decide +kernel)))
  · exact va_Nw.of rfl (A := #[Value.ref b]) (C0.2.2.2.2.2.1 _ (List.mem_of_getElem? (i := 214) (by decide +kernel)))
  · exact va_Nw.of rfl (A := #[Value.ref b]) (C0.2.2.2.2.2.1 _ (List.mem_of_getElem? (i := 253) (by decide +kernel)))
  · exact va_Nw.of rfl (A := #[Value.ref b]) (C0.2.2.2.2.2.1 _ (List.mem_of_getElem? (i := 260) (by decide +kernel)))
  · exact va_Nw.of rfl (A := #[Value.ref b]) (C0.2.2.2.2.2.1 _ (List.mem_of_getElem? (i := 291) (by decide +kernel)))
  · exact va_Nw.of rfl (A := #[Value.ref b]) (C0.2.2.2.2.2.1 _ (List.mem_of_getElem? (i := 350) (by decide +kernel)))
