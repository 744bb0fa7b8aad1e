/-- the tables' words that hold at every later point -/
def nh_tb : List Cond := lw_tbl.filter goodWord
theorem nh_in {i : Nat} {x : Cond} (h : lw_tbl[i]? = some x) (g : goodWord x = true) : x ∈ nh_tb := List.mem_filter.mpr ⟨List.mem_of_getElem? h, g⟩
/-! THE JUDGEMENT: a point of a method, over a side's cells by number (no addresses), with what must hold at its return -/
/-- a side's state: ints by cell and slot, arrays by cell, moving references by cell and slot -/
abbrev nh_S : Type := (Nat → Nat → Int32) × (Nat → Nat → Int32) × (Nat → Nat → Nat)
/-- a cell's shape: an array (component, length, the cell of row 0 where it is a grid), or an object (class, kinds of its fields: int, a moving reference, a fixed one) -/
abbrev nh_Q : Type := (FieldType × Nat × Option Nat) ⊕ (Nat × List (Option (Option Nat)))
/-- a method: its class, code, locals, what it returns, its room, its side's shape -/
abbrev nh_K : Type := String × ByteArray × Nat × Option FieldType × Room × List nh_Q
def nh_rv (ad : Nat → Nat) (v : Value) : Value := match v with
  | .ref k => .ref (ad k)
  | x => x
theorem nh_rv_cat (ad : Nat → Nat) (v : Value) : (nh_rv ad v).category = v.category := by cases v <;> rfl
def nh_av (σ : nh_S) (k j : Nat) (kd : Option (Option Nat)) : Value := match kd with
  | none => .int (σ.1 k j)
  | some none => .ref (σ.2.2 k j)
  | some (some q) => .ref q
def nh_fs (ad : Nat → Nat) (σ : nh_S) (k : Nat) (kds : List (Option (Option Nat))) : List Value := kds.mapIdx (fun j kd => nh_rv ad (nh_av σ k j kd))
def nh_ce (tA : FieldType → ClassId) (ad : Nat → Nat) (σ : nh_S) (k : Nat) (q : nh_Q) : va_E := match q with
  | .inl (ty, n, none) => .inl (tA ty, n, .inl (σ.2.1 k))
  | .inl (ty, n, some b) => .inl (tA ty, n, .inr (.inr (.inr (.inr (fun i => if i < n then some (ad (b + i)) else none)))))
  | .inr (ci, kds) => .inr (ci, nh_fs ad σ k kds)
def nh_ws (sh : List nh_Q) (tA : FieldType → ClassId) (ad : Nat → Nat) (σ : nh_S) : va_W := sh.mapIdx (fun k q => (ad k, nh_ce tA ad σ k q))
def nh_si (σ : nh_S) (k j : Nat) (x : Int32) : nh_S := (fun k' => if k' = k then (fun j' => if j' = j then x else σ.1 k j') else σ.1 k', σ.2)
def nh_sa (σ : nh_S) (k : Nat) (f : Nat → Int32) : nh_S := (σ.1, fun k' => if k' = k then f else σ.2.1 k', σ.2.2)
def nh_sr (σ : nh_S) (k j : Nat) (x : Nat) : nh_S := (σ.1, σ.2.1, fun k' => if k' = k then (fun j' => if j' = j then x else σ.2.2 k j') else σ.2.2 k')
theorem nh_ws_at {sh : List nh_Q} {k : Nat} {q : nh_Q} (h : sh[k]? = some q) (tA : FieldType → ClassId) (ad : Nat → Nat) (σ : nh_S) : (nh_ws sh tA ad σ)[k]? = some (ad k, nh_ce tA ad σ k q) := by
  unfold nh_ws
  rw [List.getElem?_mapIdx, h]
  rfl
theorem nh_fs_at {kds : List (Option (Option Nat))} {j : Nat} {kd : Option (Option Nat)} (h : kds[j]? = some kd) (ad : Nat → Nat) (σ : nh_S) (k : Nat) : (nh_fs ad σ k kds)[j]? = some (nh_rv ad (nh_av σ k j kd)) := by
  unfold nh_fs
  rw [List.getElem?_mapIdx, h]
  rfl
theorem nh_fs_len (kds : List (Option (Option Nat))) (ad : Nat → Nat) (σ : nh_S) (k : Nat) : (nh_fs ad σ k kds).length = kds.length := by
  unfold nh_fs
  rw [List.length_mapIdx]
theorem nh_ws_set {sh : List nh_Q} {k : Nat} {q : nh_Q} (h : sh[k]? = some q) (tA : FieldType → ClassId) (ad : Nat → Nat) (σ τ : nh_S) {e : va_E} (he : nh_ce tA ad τ k q = e) (ho : ∀ i, i ≠ k → σ.1 i = τ.1 i ∧ σ.2.1 i = τ.2.1 i ∧ σ.2.2 i = τ.2.2 i) :
    (nh_ws sh tA ad σ).set k (ad k, e) = nh_ws sh tA ad τ := by
  apply List.ext_getElem?
  intro i
  by_cases hi : i = k
  · subst hi
    rw [nh_ws_at h tA ad τ, he, List.getElem?_set]
    have hlt : i < (nh_ws sh tA ad σ).length := by
      unfold nh_ws
      rw [List.length_mapIdx]
      exact (List.getElem?_eq_some_iff.mp h).1
    simp [hlt]
  · rw [List.getElem?_set_ne (fun e => hi e.symm)]
    unfold nh_ws
    rw [List.getElem?_mapIdx, List.getElem?_mapIdx]
    obtain ⟨h1, h2, h3⟩ := ho i hi
    have e2 : ∀ q : nh_Q, nh_ce tA ad σ i q = nh_ce tA ad τ i q := by
      intro q
      have e0 : ∀ j kd, nh_av σ i j kd = nh_av τ i j kd := by
        intro j kd
        unfold nh_av
        rcases kd with _ | _ | q
        · show Value.int (σ.1 i j) = Value.int (τ.1 i j)
          rw [h1]
        · show Value.ref (σ.2.2 i j) = Value.ref (τ.2.2 i j)
          rw [h3]
        · rfl
      have e1 : ∀ kds, nh_fs ad σ i kds = nh_fs ad τ i kds := by
        intro kds
        unfold nh_fs
        congr 1
        funext j kd
        rw [e0]
      rcases q with ⟨ty, n, _ | b⟩ | ⟨ci, kds⟩
      · show Sum.inl (tA ty, n, Sum.inl (σ.2.1 i)) = Sum.inl (tA ty, n, Sum.inl (τ.2.1 i))
        rw [h2]
      · rfl
      · show Sum.inr (ci, nh_fs ad σ i kds) = Sum.inr (ci, nh_fs ad τ i kds)
        rw [e1]
    cases sh[i]? with
    | none => rfl
    | some q => show some (ad i, nh_ce tA ad σ i q) = some (ad i, nh_ce tA ad τ i q); rw [e2]
theorem nh_ws_si {sh : List nh_Q} {k ci j : Nat} {kds : List (Option (Option Nat))} (h : sh[k]? = some (.inr (ci, kds))) (hj : kds[j]? = some none) (tA : FieldType → ClassId) (ad : Nat → Nat) (σ : nh_S) (x : Int32) :
    (nh_ws sh tA ad σ).set k (ad k, .inr (ci, (nh_fs ad σ k kds).set j (.int x))) = nh_ws sh tA ad (nh_si σ k j x) := by
  refine nh_ws_set h tA ad σ (nh_si σ k j x) ?_ (fun i hi => ⟨by simp [nh_si, hi], rfl, rfl⟩)
  show Sum.inr (ci, nh_fs ad (nh_si σ k j x) k kds) = _
  congr 2
  apply List.ext_getElem?
  intro i
  by_cases hi : i = j
  · subst hi
    rw [nh_fs_at hj, List.getElem?_set]
    have hlt : i < (nh_fs ad σ k kds).length := by rw [nh_fs_len]; exact (List.getElem?_eq_some_iff.mp hj).1
    simp [hlt, nh_rv, nh_av, nh_si]
  · rw [List.getElem?_set_ne (fun e => hi e.symm)]
    unfold nh_fs
    rw [List.getElem?_mapIdx, List.getElem?_mapIdx]
    cases kds[i]? with
    | none => rfl
    | some kd => rcases kd with _ | _ | q <;> simp [nh_rv, nh_av, nh_si, hi]
theorem nh_ws_sr {sh : List nh_Q} {k ci j : Nat} {kds : List (Option (Option Nat))} (h : sh[k]? = some (.inr (ci, kds))) (hj : kds[j]? = some (some none)) (tA : FieldType → ClassId) (ad : Nat → Nat) (σ : nh_S) (x : Nat) :
    (nh_ws sh tA ad σ).set k (ad k, .inr (ci, (nh_fs ad σ k kds).set j (.ref (ad x)))) = nh_ws sh tA ad (nh_sr σ k j x) := by
  refine nh_ws_set h tA ad σ (nh_sr σ k j x) ?_ (fun i hi => ⟨rfl, rfl, by simp [nh_sr, hi]⟩)
  show Sum.inr (ci, nh_fs ad (nh_sr σ k j x) k kds) = _
  congr 2
  apply List.ext_getElem?
  intro i
  by_cases hi : i = j
  · subst hi
    rw [nh_fs_at hj, List.getElem?_set]
    have hlt : i < (nh_fs ad σ k kds).length := by rw [nh_fs_len]; exact (List.getElem?_eq_some_iff.mp hj).1
    simp [hlt, nh_rv, nh_av, nh_sr]
  · rw [List.getElem?_set_ne (fun e => hi e.symm)]
    unfold nh_fs
    rw [List.getElem?_mapIdx, List.getElem?_mapIdx]
    cases kds[i]? with
    | none => rfl
    | some kd => rcases kd with _ | _ | q <;> simp [nh_rv, nh_av, nh_sr, hi]
theorem nh_ws_sa {sh : List nh_Q} {k n : Nat} {ty : FieldType} (h : sh[k]? = some (.inl (ty, n, none))) (tA : FieldType → ClassId) (ad : Nat → Nat) (σ : nh_S) (f : Nat → Int32) :
    (nh_ws sh tA ad σ).set k (ad k, .inl (tA ty, n, .inl f)) = nh_ws sh tA ad (nh_sa σ k f) := by
  refine nh_ws_set h tA ad σ (nh_sa σ k f) ?_ (fun i hi => ⟨rfl, by simp [nh_sa, hi], rfl⟩)
  show Sum.inl (tA ty, n, Sum.inl ((nh_sa σ k f).2.1 k)) = _
  simp [nh_sa]
/-- the locals: a place a slot -/
def nh_has (ad : Nat → Nat) (lsA : Array Slot) (nL : Nat) (ls : List (Option Value)) : Prop := lsA.size = nL ∧ lv_wf lsA ∧ ls.length = nL ∧ ∀ (i : Nat) (v : Value), ls[i]? = some (some v) → lsA[i]? = some (.val (nh_rv ad v))
def nh_ll (ad : Nat → Nat) (ls : List (Option Value)) : List (Nat × Value) := (List.range ls.length).filterMap (fun i => ls[i]?.join.map (fun v => (i, nh_rv ad v)))
theorem nh_ll_mem {ad : Nat → Nat} {ls : List (Option Value)} {q : Nat × Value} : q ∈ nh_ll ad ls ↔ ∃ v, ls[q.1]? = some (some v) ∧ q.2 = nh_rv ad v := by
  unfold nh_ll
  rw [List.mem_filterMap]
  constructor
  · rintro ⟨i, -, hi⟩
    cases hl : ls[i]? with
    | none => rw [hl] at hi; cases hi
    | some o =>
      rw [hl] at hi
      cases o with
      | none => cases hi
      | some v => cases hi; exact ⟨v, hl, rfl⟩
  · rintro ⟨v, h1, h2⟩
    refine ⟨q.1, List.mem_range.mpr (List.getElem?_eq_some_iff.mp h1).1, ?_⟩
    rw [h1, ← Prod.eta q, h2]
    rfl
theorem nh_has.lv {ad : Nat → Nat} {lsA : Array Slot} {nL : Nat} {ls : List (Option Value)} (h : nh_has ad lsA nL ls) : lv_has lsA nL (nh_ll ad ls) := ⟨h.1, h.2.1, fun q hq => by
  obtain ⟨v, h1, h2⟩ := nh_ll_mem.mp hq
  rw [h2]
  exact h.2.2.2 q.1 v h1⟩
/-- no long stands just ahead of place i -/
def nh_nl (ls : List (Option Value)) (i : Nat) : Bool := match i with
  | 0 => true
  | j + 1 => match ls[j]? with
    | some (some v) => v.category == 1
    | _ => true
theorem nh_has.st1 {ad : Nat → Nat} {lsB : Array Slot} {nL i : Nat} {ls : List (Option Value)} {v : Value} (hlen : ls.length = nL) (hn : nh_nl ls i = true) (h : lv_has lsB nL ((i, nh_rv ad v) :: (nh_ll ad ls).filter (fun q => !(q.1 == i) && !(q.1 + 1 == i && q.2.category == 2)))) : nh_has ad lsB nL (ls.set i (some v)) := by
  refine ⟨h.1, h.2.1, by rw [List.length_set]; exact hlen, fun k x hk => ?_⟩
  by_cases hi : k = i
  · subst hi
    rw [List.getElem?_set] at hk
    simp at hk
    rw [← hk.2]
    exact h.2.2 _ List.mem_cons_self
  · rw [List.getElem?_set_ne (fun e => hi e.symm)] at hk
    refine h.2.2 (k, nh_rv ad x) (List.mem_cons_of_mem _ (List.mem_filter.mpr ⟨nh_ll_mem.mpr ⟨x, hk, rfl⟩, ?_⟩))
    rw [nh_rv_cat]
    have h2 : ¬ (k + 1 = i ∧ x.category = 2) := by
      rintro ⟨e1, e2⟩
      subst e1
      simp [nh_nl, hk, e2] at hn
    simp only [Bool.and_eq_true, Bool.not_eq_true', beq_eq_false_iff_ne, Bool.and_eq_false_imp, beq_iff_eq]
    exact ⟨hi, fun e1 e2 => h2 ⟨e1, e2⟩⟩
theorem nh_has.st2 {ad : Nat → Nat} {lsB : Array Slot} {nL i : Nat} {ls : List (Option Value)} {v : Value} (hlen : ls.length = nL) (hn : nh_nl ls i = true) (h : lv_has lsB nL ((i, nh_rv ad v) :: (nh_ll ad ls).filter (fun q => !(q.1 == i) && (!(q.1 == i + 1) && !(q.1 + 1 == i && q.2.category == 2))))) : nh_has ad lsB nL ((ls.set i (some v)).set (i + 1) none) := by
  refine ⟨h.1, h.2.1, by rw [List.length_set, List.length_set]; exact hlen, fun k x hk => ?_⟩
  by_cases h1 : k = i + 1
  · subst h1
    rw [List.getElem?_set] at hk
    simp at hk
  · rw [List.getElem?_set_ne (fun e => h1 e.symm)] at hk
    by_cases hi : k = i
    · subst hi
      rw [List.getElem?_set] at hk
      simp at hk
      rw [← hk.2]
      exact h.2.2 _ List.mem_cons_self
    · rw [List.getElem?_set_ne (fun e => hi e.symm)] at hk
      refine h.2.2 (k, nh_rv ad x) (List.mem_cons_of_mem _ (List.mem_filter.mpr ⟨nh_ll_mem.mpr ⟨x, hk, rfl⟩, ?_⟩))
      rw [nh_rv_cat]
      have h2 : ¬ (k + 1 = i ∧ x.category = 2) := by
        rintro ⟨e1, e2⟩
        subst e1
        simp [nh_nl, hk, e2] at hn
      simp only [Bool.and_eq_true, Bool.not_eq_true', beq_eq_false_iff_ne, Bool.and_eq_false_imp, beq_iff_eq]
      exact ⟨hi, h1, fun e1 e2 => h2 ⟨e1, e2⟩⟩
theorem nh_has.weak {ad : Nat → Nat} {lsA : Array Slot} {nL : Nat} {ls : List (Option Value)} (i : Nat) (h : nh_has ad lsA nL ls) : nh_has ad lsA nL (ls.set i none) := by
  refine ⟨h.1, h.2.1, by rw [List.length_set]; exact h.2.2.1, fun k x hk => ?_⟩
  by_cases hi : k = i
  · subst hi
    rw [List.getElem?_set] at hk
    simp at hk
  · rw [List.getElem?_set_ne (fun e => hi e.symm)] at hk
    exact h.2.2.2 k x hk
/-- the locals at a method's entry -/
def nh_e1 (v : Value) : List (Option Value) := if v.category = 2 then [some v, none] else [some v]
def nh_en (n : Nat) (vs : List Value) : List (Option Value) := vs.flatMap nh_e1 ++ List.replicate (n - (vs.flatMap nh_e1).length) none
theorem nh_en_args (ad : Nat → Nat) : ∀ (vs : List Value) (pad : Nat) (b i : Nat) (v : Value), (vs.flatMap nh_e1 ++ List.replicate pad none)[i]? = some (some v) → (b + i, nh_rv ad v) ∈ lv_args b (vs.map (nh_rv ad))
  | [], pad, b, i, v, h => by
    simp [List.getElem?_replicate] at h
  | w :: vs, pad, b, i, v, h => by
    rw [List.flatMap_cons, List.append_assoc] at h
    show _ ∈ (b, nh_rv ad w) :: lv_args (if (nh_rv ad w).category = 2 then b + 2 else b + 1) (vs.map (nh_rv ad))
    rw [nh_rv_cat]
    by_cases hc : w.category = 2
    · rw [show nh_e1 w = [some w, none] from if_pos hc] at h
      rw [if_pos hc]
      match i, h with
      | 0, h => simp at h; rw [h]; exact List.mem_cons_self
      | 1, h => simp at h
      | i + 2, h =>
        have h2 : (vs.flatMap nh_e1 ++ List.replicate pad none)[i]? = some (some v) := by simpa using h
        have := nh_en_args ad vs pad (b + 2) i v h2
        rw [show b + (i + 2) = b + 2 + i by omega]
        exact List.mem_cons_of_mem _ this
    · rw [show nh_e1 w = [some w] from if_neg hc] at h
      rw [if_neg hc]
      match i, h with
      | 0, h => simp at h; rw [h]; exact List.mem_cons_self
      | i + 1, h =>
        have h2 : (vs.flatMap nh_e1 ++ List.replicate pad none)[i]? = some (some v) := by simpa using h
        have := nh_en_args ad vs pad (b + 1) i v h2
        rw [show b + (i + 1) = b + 1 + i by omega]
        exact List.mem_cons_of_mem _ this
theorem nh_en_len (ad : Nat → Nat) : ∀ vs : List Value, (lg_sl (vs.map (nh_rv ad))).length = (vs.flatMap nh_e1).length
  | [] => rfl
  | w :: vs => by
    have ih := nh_en_len ad vs
    rw [List.flatMap_cons, List.length_append, ← ih, List.map_cons]
    unfold nh_e1
    cases w <;> simp [lg_sl, nh_rv, Value.category] <;> omega
/-- what a side's frames know of the rest: the five texts and String's switch -/
def nh_len : List Nat := [5, 3, 4, 2, 4]
def nh_byt : List (List Int32) := [[104, 111, 117, 115, 101], [119, 97, 121], [112, 97, 114, 116], [111, 110], [119, 97, 107, 101]]
def nh_txt : List (String × Nat × String × Nat) := [("NineHouses$Parish", 47, "house", 0), ("NineHouses$Parish", 57, "way", 1), ("NineHouses$Parish", 62, "part", 2), ("NineHouses$Parish", 115, "on", 3), ("NineHouses$Plan", 28, "wake", 4)]
def nh_nst : List (String × Nat × MethodName × String) := [(RX0, 77, yX8_counted, "NineHouses"), (RX0, 91, yX8_swap, "NineHouses"), (RX1, 89, yX8_swap, "NineHouses"), (RX3, 77, yX8_fullSet, "NineHouses"), (RX3, 81, yX8_has, "NineHouses"), (RX5, 36, yX8_counted, "NineHouses"), (RX5, 43, yX8_has, "NineHouses"), (RX7, 57, yX8_has, "NineHouses")]
def nh_X (ad : Nat → Nat) (A : Nat → Prop) (s : State) : Prop :=
  vk_S 5 nh_len nh_byt (fun i => ad (900 + i)) (fun i => ad (910 + i)) A s s.heap ∧ (∀ q ∈ nh_txt, vk_R q.1 q.2.1 q.2.2.1 (ad (900 + q.2.2.2)) s) ∧ va_Z "java/lang/String" "COMPACT_STRINGS" "Z" (.int 1) A s s.heap ∧ (va_Z "jdk/internal/util/Preconditions" "SIOOBE_FORMATTER" "Ljava/util/function/BiFunction;" .null A s s.heap ∨ va_Z "jdk/internal/util/Preconditions" "SIOOBE_FORMATTER" "Ljava/util/function/BiFunction;" (.ref (ad 920)) A s s.heap) ∧ ∀ q ∈ nh_nst, va_Nw (.methodLinkNest q.1 q.2.1 q.2.2.1 q.2.2.2) s
theorem nh_X.call {ad : Nat → Nat} {A : Nat → Prop} {s U : State} {H : Heap} {locs : List Loc} (h : nh_X ad A s) (hS : va_S A s.heap H locs) (hU : U.heap = H) (hW : s.WarmedH U.vm) : nh_X ad A U := by
  obtain ⟨h1, h2, h3, h5, h4⟩ := h
  refine ⟨?_, fun q hq => (h2 q hq).warm hW, ?_, ?_, fun q hq => (h4 q hq).warmM hW⟩
  · rw [hU]
    exact vk_S.moved hW.alike (h1.kept hS.2.1)
  · rw [hU]
    exact va_Z.moved hW.alike (h3.kept hS.2.1)
  · rw [hU]
    exact h5.imp (fun z => va_Z.moved hW.alike (z.kept hS.2.1)) (fun z => va_Z.moved hW.alike (z.kept hS.2.1))
def nh_ty (tA : FieldType → ClassId) : List (ClassId × FieldType) := [(tA .int, .int), (tA .char, .char), (tA .boolean, .boolean), (tA (.array .int), .array .int)]
def nh_C (K : nh_K) (p : Program) (s : State) (m : MethodId) (args : Array Value) (meth : Method) (c : Code) (D : va_G) (tA : FieldType → ClassId) (ad : Nat → Nat) (A : Nat → Prop) : Prop :=
  p.tables.exec = Jvm.exec ∧ c.code = K.2.1 ∧ c.maxLocals = K.2.2.1 ∧ meth.sig.returnType = K.2.2.2.1 ∧ meth.locks = false ∧ s.vm.findClass K.1 = some m.cls ∧ (∀ w ∈ nh_tb, w.before args s = true) ∧ va_K D vwCl (nh_ty tA) s ∧ (∀ q : Nat, s.heap.size ≤ q → A q) ∧ nh_X ad A s
/-- THE JUDGEMENT -/
def nh_E (K : nh_K) (pc : Nat) (ls : List (Option Value)) (st : List Value) (σ : nh_S) (Q : Option Value → nh_S → Prop) : Prop :=
  ∀ (p : Program) (l : Launch) (e : Env) (s : State) (m : MethodId) (args : Array Value) (below : List Frame) (meth : Method) (c : Code) (H : Heap) (locs : List Loc) (lsA : Array Slot) (D : va_G) (tA : FieldType → ClassId) (ad : Nat → Nat) (A : Nat → Prop) (Qc : Array Value → State → Outcome → State → Prop) (free : Addr → Prop),
    nh_C K p s m args meth c D tA ad A → va_P D vwCl (nh_ws K.2.2.2.2.2 tA ad σ) H → va_D A (nh_ws K.2.2.2.2.2 tA ad σ) → va_S A s.heap H locs → nh_has ad lsA K.2.2.1 ls →
    (∀ (r : Option Value) (τ : nh_S) (t : State) (locs' : List Loc), Q r τ → va_P D vwCl (nh_ws K.2.2.2.2.2 tA ad τ) t.heap → va_D A (nh_ws K.2.2.2.2.2 tA ad τ) → va_S A s.heap t.heap locs' → s.WarmedH t.vm → Qc args s (.returned (r.map (nh_rv ad))) t) →
    (∀ q, A q → free q) →
    W p l e K.2.2.2.2.1 s m args below meth c H locs 0 0 (MQ below Qc args s 0 0 free) (F0 m pc lsA (st.map (nh_rv ad)))
theorem nE_mono {K : nh_K} {pc : Nat} {ls : List (Option Value)} {st : List Value} {σ : nh_S} {Q Q' : Option Value → nh_S → Prop} (h : ∀ r τ, Q r τ → Q' r τ) (k : nh_E K pc ls st σ Q) : nh_E K pc ls st σ Q' := by
  intro p l e s m args below meth c H locs lsA D tA ad A Qc free C hP hD hS hl hq hf
  exact k p l e s m args below meth c H locs lsA D tA ad A Qc free C hP hD hS hl (fun r τ t locs' h1 => hq r τ t locs' (h r τ h1)) hf
theorem nE_weak {K : nh_K} {pc : Nat} {ls : List (Option Value)} {st : List Value} {σ : nh_S} {Q : Option Value → nh_S → Prop} (i : Nat) (k : nh_E K pc (ls.set i none) st σ Q) : nh_E K pc ls st σ Q := by
  intro p l e s m args below meth c H locs lsA D tA ad A Qc free C hP hD hS hl hq hf
  exact k p l e s m args below meth c H locs lsA D tA ad A Qc free C hP hD hS (hl.weak i) hq hf

theorem nE_iconst {K : nh_K} {pc : Nat} {ls : List (Option Value)} {st : List Value} {σ : nh_S} {Q : Option Value → nh_S → Prop} {n : Int} {v : Int32} (hd : decode K.2.1 pc = .ok (.iconst n, 1)) (hv : Int32.ofInt n = v) (k : nh_E K (pc + 1) ls (.int v :: st) σ Q) : nh_E K pc ls st σ Q := by
  intro p l e s m args below meth c H locs lsA D tA ad A Qc free C hP hD hS hl hq hf
  exact lv_iconst C.1 C.2.1 hd hv (k p l e s m args below meth c H locs lsA D tA ad A Qc free C hP hD hS hl hq hf)
theorem nE_bipush {K : nh_K} {pc : Nat} {ls : List (Option Value)} {st : List Value} {σ : nh_S} {Q : Option Value → nh_S → Prop} {n : Int} {v : Int32} (hd : decode K.2.1 pc = .ok (.bipush n, 2)) (hv : (Int8.ofInt n).toInt32 = v) (k : nh_E K (pc + 2) ls (.int v :: st) σ Q) : nh_E K pc ls st σ Q := by
  intro p l e s m args below meth c H locs lsA D tA ad A Qc free C hP hD hS hl hq hf
  exact lv_bipush C.1 C.2.1 hd hv (k p l e s m args below meth c H locs lsA D tA ad A Qc free C hP hD hS hl hq hf)
theorem nE_sipush {K : nh_K} {pc : Nat} {ls : List (Option Value)} {st : List Value} {σ : nh_S} {Q : Option Value → nh_S → Prop} {n : Int} {v : Int32} (hd : decode K.2.1 pc = .ok (.sipush n, 3)) (hv : (Int16.ofInt n).toInt32 = v) (k : nh_E K (pc + 3) ls (.int v :: st) σ Q) : nh_E K pc ls st σ Q := by
  intro p l e s m args below meth c H locs lsA D tA ad A Qc free C hP hD hS hl hq hf
  exact lv_sipush C.1 C.2.1 hd hv (k p l e s m args below meth c H locs lsA D tA ad A Qc free C hP hD hS hl hq hf)
theorem nE_lconst {K : nh_K} {pc : Nat} {ls : List (Option Value)} {st : List Value} {σ : nh_S} {Q : Option Value → nh_S → Prop} {n : Fin 2} {v : Int64} (hd : decode K.2.1 pc = .ok (.lconst n, 1)) (hv : Int64.ofNat (n : Nat) = v) (k : nh_E K (pc + 1) ls (.long v :: st) σ Q) : nh_E K pc ls st σ Q := by
  intro p l e s m args below meth c H locs lsA D tA ad A Qc free C hP hD hS hl hq hf
  exact lv_lconst C.1 C.2.1 hd hv (k p l e s m args below meth c H locs lsA D tA ad A Qc free C hP hD hS hl hq hf)
theorem nE_ldc {K : nh_K} {pc : Nat} {ls : List (Option Value)} {st : List Value} {σ : nh_S} {Q : Option Value → nh_S → Prop} {i : Nat} {v : Int32} (hw : Cond.constant K.1 i v ∈ nh_tb) (hd : decode K.2.1 pc = .ok (.ldc i, 2)) (k : nh_E K (pc + 2) ls (.int v :: st) σ Q) : nh_E K pc ls st σ Q := by
  intro p l e s m args below meth c H locs lsA D tA ad A Qc free C hP hD hS hl hq hf
  exact lv_ldc C.1 C.2.1 C.2.2.2.2.2.1 (C.2.2.2.2.2.2.1 _ hw) hd (k p l e s m args below meth c H locs lsA D tA ad A Qc free C hP hD hS hl hq hf)
theorem nE_ldcw {K : nh_K} {pc : Nat} {ls : List (Option Value)} {st : List Value} {σ : nh_S} {Q : Option Value → nh_S → Prop} {i : Nat} {v : Int32} (hw : Cond.constant K.1 i v ∈ nh_tb) (hd : decode K.2.1 pc = .ok (.ldc_w i, 3)) (k : nh_E K (pc + 3) ls (.int v :: st) σ Q) : nh_E K pc ls st σ Q := by
  intro p l e s m args below meth c H locs lsA D tA ad A Qc free C hP hD hS hl hq hf
  exact lv_ldcw C.1 C.2.1 C.2.2.2.2.2.1 (C.2.2.2.2.2.2.1 _ hw) hd (k p l e s m args below meth c H locs lsA D tA ad A Qc free C hP hD hS hl hq hf)
theorem nE_ldc2 {K : nh_K} {pc : Nat} {ls : List (Option Value)} {st : List Value} {σ : nh_S} {Q : Option Value → nh_S → Prop} {i : Nat} {v : Int64} (hw : Cond.constantLong K.1 i v ∈ nh_tb) (hd : decode K.2.1 pc = .ok (.ldc2_w i, 3)) (k : nh_E K (pc + 3) ls (.long v :: st) σ Q) : nh_E K pc ls st σ Q := by
  intro p l e s m args below meth c H locs lsA D tA ad A Qc free C hP hD hS hl hq hf
  exact lv_ldc2 C.1 C.2.1 C.2.2.2.2.2.1 (C.2.2.2.2.2.2.1 _ hw) hd (k p l e s m args below meth c H locs lsA D tA ad A Qc free C hP hD hS hl hq hf)
theorem nE_ldcS {K : nh_K} {pc : Nat} {ls : List (Option Value)} {st : List Value} {σ : nh_S} {Q : Option Value → nh_S → Prop} {i j : Nat} {tx : String} (hw : (K.1, i, tx, j) ∈ nh_txt) (hd : decode K.2.1 pc = .ok (.ldc i, 2)) (k : nh_E K (pc + 2) ls (.ref (900 + j) :: st) σ Q) : nh_E K pc ls st σ Q := by
  intro p l e s m args below meth c H locs lsA D tA ad A Qc free C hP hD hS hl hq hf
  exact va_ldcS C.1 C.2.1 C.2.2.2.2.2.1 (C.2.2.2.2.2.2.2.2.2.2.1 _ hw) hd (k p l e s m args below meth c H locs lsA D tA ad A Qc free C hP hD hS hl hq hf)
theorem nE_iload_n {K : nh_K} {pc : Nat} {ls : List (Option Value)} {st : List Value} {σ : nh_S} {Q : Option Value → nh_S → Prop} {j : Fin 4} {i : Nat} {x : Int32} (hd : decode K.2.1 pc = .ok (.iload_n j, 1)) (hi : (j : Nat) = i) (hx : ls[i]? = some (some (.int x))) (k : nh_E K (pc + 1) ls (.int x :: st) σ Q) : nh_E K pc ls st σ Q := by
  intro p l e s m args below meth c H locs lsA D tA ad A Qc free C hP hD hS hl hq hf
  exact lv_iload_n C.1 C.2.1 hd hi (hl.2.2.2 _ _ hx) (k p l e s m args below meth c H locs lsA D tA ad A Qc free C hP hD hS hl hq hf)
theorem nE_iload {K : nh_K} {pc : Nat} {ls : List (Option Value)} {st : List Value} {σ : nh_S} {Q : Option Value → nh_S → Prop} {i : Nat} {x : Int32} (hd : decode K.2.1 pc = .ok (.iload i, 2)) (hx : ls[i]? = some (some (.int x))) (k : nh_E K (pc + 2) ls (.int x :: st) σ Q) : nh_E K pc ls st σ Q := by
  intro p l e s m args below meth c H locs lsA D tA ad A Qc free C hP hD hS hl hq hf
  exact lv_iload C.1 C.2.1 hd (hl.2.2.2 _ _ hx) (k p l e s m args below meth c H locs lsA D tA ad A Qc free C hP hD hS hl hq hf)
theorem nE_lload_n {K : nh_K} {pc : Nat} {ls : List (Option Value)} {st : List Value} {σ : nh_S} {Q : Option Value → nh_S → Prop} {j : Fin 4} {i : Nat} {x : Int64} (hd : decode K.2.1 pc = .ok (.lload_n j, 1)) (hi : (j : Nat) = i) (hx : ls[i]? = some (some (.long x))) (k : nh_E K (pc + 1) ls (.long x :: st) σ Q) : nh_E K pc ls st σ Q := by
  intro p l e s m args below meth c H locs lsA D tA ad A Qc free C hP hD hS hl hq hf
  exact lv_lload_n C.1 C.2.1 hd hi (hl.2.2.2 _ _ hx) (k p l e s m args below meth c H locs lsA D tA ad A Qc free C hP hD hS hl hq hf)
theorem nE_lload {K : nh_K} {pc : Nat} {ls : List (Option Value)} {st : List Value} {σ : nh_S} {Q : Option Value → nh_S → Prop} {i : Nat} {x : Int64} (hd : decode K.2.1 pc = .ok (.lload i, 2)) (hx : ls[i]? = some (some (.long x))) (k : nh_E K (pc + 2) ls (.long x :: st) σ Q) : nh_E K pc ls st σ Q := by
  intro p l e s m args below meth c H locs lsA D tA ad A Qc free C hP hD hS hl hq hf
  exact lv_lload C.1 C.2.1 hd (hl.2.2.2 _ _ hx) (k p l e s m args below meth c H locs lsA D tA ad A Qc free C hP hD hS hl hq hf)
theorem nE_aload_n {K : nh_K} {pc : Nat} {ls : List (Option Value)} {st : List Value} {σ : nh_S} {Q : Option Value → nh_S → Prop} {j : Fin 4} {i : Nat} {x : Nat} (hd : decode K.2.1 pc = .ok (.aload_n j, 1)) (hi : (j : Nat) = i) (hx : ls[i]? = some (some (.ref x))) (k : nh_E K (pc + 1) ls (.ref x :: st) σ Q) : nh_E K pc ls st σ Q := by
  intro p l e s m args below meth c H locs lsA D tA ad A Qc free C hP hD hS hl hq hf
  exact lv_aload_n C.1 C.2.1 hd hi (hl.2.2.2 _ _ hx) (k p l e s m args below meth c H locs lsA D tA ad A Qc free C hP hD hS hl hq hf)
theorem nE_aload {K : nh_K} {pc : Nat} {ls : List (Option Value)} {st : List Value} {σ : nh_S} {Q : Option Value → nh_S → Prop} {i : Nat} {x : Nat} (hd : decode K.2.1 pc = .ok (.aload i, 2)) (hx : ls[i]? = some (some (.ref x))) (k : nh_E K (pc + 2) ls (.ref x :: st) σ Q) : nh_E K pc ls st σ Q := by
  intro p l e s m args below meth c H locs lsA D tA ad A Qc free C hP hD hS hl hq hf
  exact lv_aload C.1 C.2.1 hd (hl.2.2.2 _ _ hx) (k p l e s m args below meth c H locs lsA D tA ad A Qc free C hP hD hS hl hq hf)
theorem nE_istore_n {K : nh_K} {pc : Nat} {ls : List (Option Value)} {st : List Value} {σ : nh_S} {Q : Option Value → nh_S → Prop} {j : Fin 4} {i : Nat} {x : Int32} (hd : decode K.2.1 pc = .ok (.istore_n j, 1)) (hi : (j : Nat) = i) (hn : nh_nl ls i = true) (hb : i < K.2.2.1) (k : nh_E K (pc + 1) (ls.set i (some (.int x))) st σ Q) : nh_E K pc ls (.int x :: st) σ Q := by
  intro p l e s m args below meth c H locs lsA D tA ad A Qc free C hP hD hS hl hq hf
  exact lv_istore_n C.1 C.2.1 hd hi hl.lv hb rfl (fun lsB h => k p l e s m args below meth c H locs lsB D tA ad A Qc free C hP hD hS (nh_has.st1 (v := .int x) hl.2.2.1 hn h) hq hf)
theorem nE_istore {K : nh_K} {pc : Nat} {ls : List (Option Value)} {st : List Value} {σ : nh_S} {Q : Option Value → nh_S → Prop} {i : Nat} {x : Int32} (hd : decode K.2.1 pc = .ok (.istore i, 2)) (hn : nh_nl ls i = true) (hb : i < K.2.2.1) (k : nh_E K (pc + 2) (ls.set i (some (.int x))) st σ Q) : nh_E K pc ls (.int x :: st) σ Q := by
  intro p l e s m args below meth c H locs lsA D tA ad A Qc free C hP hD hS hl hq hf
  exact lv_istore C.1 C.2.1 hd hl.lv hb rfl (fun lsB h => k p l e s m args below meth c H locs lsB D tA ad A Qc free C hP hD hS (nh_has.st1 (v := .int x) hl.2.2.1 hn h) hq hf)
theorem nE_astore_n {K : nh_K} {pc : Nat} {ls : List (Option Value)} {st : List Value} {σ : nh_S} {Q : Option Value → nh_S → Prop} {j : Fin 4} {i : Nat} {x : Nat} (hd : decode K.2.1 pc = .ok (.astore_n j, 1)) (hi : (j : Nat) = i) (hn : nh_nl ls i = true) (hb : i < K.2.2.1) (k : nh_E K (pc + 1) (ls.set i (some (.ref x))) st σ Q) : nh_E K pc ls (.ref x :: st) σ Q := by
  intro p l e s m args below meth c H locs lsA D tA ad A Qc free C hP hD hS hl hq hf
  exact lv_astore_n C.1 C.2.1 hd hi hl.lv hb rfl (fun lsB h => k p l e s m args below meth c H locs lsB D tA ad A Qc free C hP hD hS (nh_has.st1 (v := .ref x) hl.2.2.1 hn h) hq hf)
theorem nE_astore {K : nh_K} {pc : Nat} {ls : List (Option Value)} {st : List Value} {σ : nh_S} {Q : Option Value → nh_S → Prop} {i : Nat} {x : Nat} (hd : decode K.2.1 pc = .ok (.astore i, 2)) (hn : nh_nl ls i = true) (hb : i < K.2.2.1) (k : nh_E K (pc + 2) (ls.set i (some (.ref x))) st σ Q) : nh_E K pc ls (.ref x :: st) σ Q := by
  intro p l e s m args below meth c H locs lsA D tA ad A Qc free C hP hD hS hl hq hf
  exact lv_astore C.1 C.2.1 hd hl.lv hb rfl (fun lsB h => k p l e s m args below meth c H locs lsB D tA ad A Qc free C hP hD hS (nh_has.st1 (v := .ref x) hl.2.2.1 hn h) hq hf)
theorem nE_lstore_n {K : nh_K} {pc : Nat} {ls : List (Option Value)} {st : List Value} {σ : nh_S} {Q : Option Value → nh_S → Prop} {j : Fin 4} {i : Nat} {x : Int64} (hd : decode K.2.1 pc = .ok (.lstore_n j, 1)) (hi : (j : Nat) = i) (hn : nh_nl ls i = true) (hb : i + 1 < K.2.2.1) (k : nh_E K (pc + 1) ((ls.set i (some (.long x))).set (i + 1) none) st σ Q) : nh_E K pc ls (.long x :: st) σ Q := by
  intro p l e s m args below meth c H locs lsA D tA ad A Qc free C hP hD hS hl hq hf
  exact lv_lstore_n C.1 C.2.1 hd hi hl.lv hb rfl (fun lsB h => k p l e s m args below meth c H locs lsB D tA ad A Qc free C hP hD hS (nh_has.st2 (v := .long x) hl.2.2.1 hn h) hq hf)
theorem nE_lstore {K : nh_K} {pc : Nat} {ls : List (Option Value)} {st : List Value} {σ : nh_S} {Q : Option Value → nh_S → Prop} {i : Nat} {x : Int64} (hd : decode K.2.1 pc = .ok (.lstore i, 2)) (hn : nh_nl ls i = true) (hb : i + 1 < K.2.2.1) (k : nh_E K (pc + 2) ((ls.set i (some (.long x))).set (i + 1) none) st σ Q) : nh_E K pc ls (.long x :: st) σ Q := by
  intro p l e s m args below meth c H locs lsA D tA ad A Qc free C hP hD hS hl hq hf
  exact lv_lstore C.1 C.2.1 hd hl.lv hb rfl (fun lsB h => k p l e s m args below meth c H locs lsB D tA ad A Qc free C hP hD hS (nh_has.st2 (v := .long x) hl.2.2.1 hn h) hq hf)
theorem nE_iinc {K : nh_K} {pc : Nat} {ls : List (Option Value)} {st : List Value} {σ : nh_S} {Q : Option Value → nh_S → Prop} {i : Nat} {n : Int} {x : Int32} (hd : decode K.2.1 pc = .ok (.iinc i n, 3)) (hx : ls[i]? = some (some (.int x))) (hn : nh_nl ls i = true) (hb : i < K.2.2.1) {v : Int32} (hv : x + Int32.ofInt n = v) (k : nh_E K (pc + 3) (ls.set i (some (.int v))) st σ Q) : nh_E K pc ls st σ Q := by
  intro p l e s m args below meth c H locs lsA D tA ad A Qc free C hP hD hS hl hq hf
  obtain ⟨q, hq1⟩ := List.getElem?_of_mem (nh_ll_mem (ad := ad) (q := (i, .int x)).mpr ⟨_, hx, rfl⟩)
  exact lv_iinc (k := q) C.1 C.2.1 hd hl.lv hq1 hv hb rfl (fun lsB h => k p l e s m args below meth c H locs lsB D tA ad A Qc free C hP hD hS (nh_has.st1 (v := .int v) hl.2.2.1 hn h) hq hf)
theorem nE_iadd {K : nh_K} {pc : Nat} {ls : List (Option Value)} {st : List Value} {σ : nh_S} {Q : Option Value → nh_S → Prop} {x y : Int32} (hd : decode K.2.1 pc = .ok (.iadd, 1)) (k : nh_E K (pc + 1) ls (.int (x + y) :: st) σ Q) : nh_E K pc ls (.int y :: .int x :: st) σ Q := by
  intro p l e s m args below meth c H locs lsA D tA ad A Qc free C hP hD hS hl hq hf
  exact lv_iadd C.1 C.2.1 hd (k p l e s m args below meth c H locs lsA D tA ad A Qc free C hP hD hS hl hq hf)
theorem nE_isub {K : nh_K} {pc : Nat} {ls : List (Option Value)} {st : List Value} {σ : nh_S} {Q : Option Value → nh_S → Prop} {x y : Int32} (hd : decode K.2.1 pc = .ok (.isub, 1)) (k : nh_E K (pc + 1) ls (.int (x - y) :: st) σ Q) : nh_E K pc ls (.int y :: .int x :: st) σ Q := by
  intro p l e s m args below meth c H locs lsA D tA ad A Qc free C hP hD hS hl hq hf
  exact lv_isub C.1 C.2.1 hd (k p l e s m args below meth c H locs lsA D tA ad A Qc free C hP hD hS hl hq hf)
theorem nE_imul {K : nh_K} {pc : Nat} {ls : List (Option Value)} {st : List Value} {σ : nh_S} {Q : Option Value → nh_S → Prop} {x y : Int32} (hd : decode K.2.1 pc = .ok (.imul, 1)) (k : nh_E K (pc + 1) ls (.int (x * y) :: st) σ Q) : nh_E K pc ls (.int y :: .int x :: st) σ Q := by
  intro p l e s m args below meth c H locs lsA D tA ad A Qc free C hP hD hS hl hq hf
  exact lv_imul C.1 C.2.1 hd (k p l e s m args below meth c H locs lsA D tA ad A Qc free C hP hD hS hl hq hf)
theorem nE_iand {K : nh_K} {pc : Nat} {ls : List (Option Value)} {st : List Value} {σ : nh_S} {Q : Option Value → nh_S → Prop} {x y : Int32} (hd : decode K.2.1 pc = .ok (.iand, 1)) (k : nh_E K (pc + 1) ls (.int (x &&& y) :: st) σ Q) : nh_E K pc ls (.int y :: .int x :: st) σ Q := by
  intro p l e s m args below meth c H locs lsA D tA ad A Qc free C hP hD hS hl hq hf
  exact lv_iand C.1 C.2.1 hd (k p l e s m args below meth c H locs lsA D tA ad A Qc free C hP hD hS hl hq hf)
theorem nE_ior {K : nh_K} {pc : Nat} {ls : List (Option Value)} {st : List Value} {σ : nh_S} {Q : Option Value → nh_S → Prop} {x y : Int32} (hd : decode K.2.1 pc = .ok (.ior, 1)) (k : nh_E K (pc + 1) ls (.int (x ||| y) :: st) σ Q) : nh_E K pc ls (.int y :: .int x :: st) σ Q := by
  intro p l e s m args below meth c H locs lsA D tA ad A Qc free C hP hD hS hl hq hf
  exact lv_ior C.1 C.2.1 hd (k p l e s m args below meth c H locs lsA D tA ad A Qc free C hP hD hS hl hq hf)
theorem nE_ixor {K : nh_K} {pc : Nat} {ls : List (Option Value)} {st : List Value} {σ : nh_S} {Q : Option Value → nh_S → Prop} {x y : Int32} (hd : decode K.2.1 pc = .ok (.ixor, 1)) (k : nh_E K (pc + 1) ls (.int (x ^^^ y) :: st) σ Q) : nh_E K pc ls (.int y :: .int x :: st) σ Q := by
  intro p l e s m args below meth c H locs lsA D tA ad A Qc free C hP hD hS hl hq hf
  exact lv_ixor C.1 C.2.1 hd (k p l e s m args below meth c H locs lsA D tA ad A Qc free C hP hD hS hl hq hf)
theorem nE_ishl {K : nh_K} {pc : Nat} {ls : List (Option Value)} {st : List Value} {σ : nh_S} {Q : Option Value → nh_S → Prop} {x y : Int32} (hd : decode K.2.1 pc = .ok (.ishl, 1)) (k : nh_E K (pc + 1) ls (.int (x <<< (y &&& 31)) :: st) σ Q) : nh_E K pc ls (.int y :: .int x :: st) σ Q := by
  intro p l e s m args below meth c H locs lsA D tA ad A Qc free C hP hD hS hl hq hf
  exact lv_ishl C.1 C.2.1 hd (k p l e s m args below meth c H locs lsA D tA ad A Qc free C hP hD hS hl hq hf)
theorem nE_ishr {K : nh_K} {pc : Nat} {ls : List (Option Value)} {st : List Value} {σ : nh_S} {Q : Option Value → nh_S → Prop} {x y : Int32} (hd : decode K.2.1 pc = .ok (.ishr, 1)) (k : nh_E K (pc + 1) ls (.int (x >>> (y &&& 31)) :: st) σ Q) : nh_E K pc ls (.int y :: .int x :: st) σ Q := by
  intro p l e s m args below meth c H locs lsA D tA ad A Qc free C hP hD hS hl hq hf
  exact lv_ishr C.1 C.2.1 hd (k p l e s m args below meth c H locs lsA D tA ad A Qc free C hP hD hS hl hq hf)
theorem nE_idiv {K : nh_K} {pc : Nat} {ls : List (Option Value)} {st : List Value} {σ : nh_S} {Q : Option Value → nh_S → Prop} {x y : Int32} (hd : decode K.2.1 pc = .ok (.idiv, 1)) (hne : ¬ y = 0) (k : nh_E K (pc + 1) ls (.int (x / y) :: st) σ Q) : nh_E K pc ls (.int y :: .int x :: st) σ Q := by
  intro p l e s m args below meth c H locs lsA D tA ad A Qc free C hP hD hS hl hq hf
  exact lv_idiv C.1 C.2.1 hd hne (k p l e s m args below meth c H locs lsA D tA ad A Qc free C hP hD hS hl hq hf)
theorem nE_irem {K : nh_K} {pc : Nat} {ls : List (Option Value)} {st : List Value} {σ : nh_S} {Q : Option Value → nh_S → Prop} {x y : Int32} (hd : decode K.2.1 pc = .ok (.irem, 1)) (hne : ¬ y = 0) (k : nh_E K (pc + 1) ls (.int (x - x / y * y) :: st) σ Q) : nh_E K pc ls (.int y :: .int x :: st) σ Q := by
  intro p l e s m args below meth c H locs lsA D tA ad A Qc free C hP hD hS hl hq hf
  exact lv_irem C.1 C.2.1 hd hne (k p l e s m args below meth c H locs lsA D tA ad A Qc free C hP hD hS hl hq hf)
theorem nE_iushr {K : nh_K} {pc : Nat} {ls : List (Option Value)} {st : List Value} {σ : nh_S} {Q : Option Value → nh_S → Prop} {x y : Int32} (hd : decode K.2.1 pc = .ok (.iushr, 1)) (k : nh_E K (pc + 1) ls (.int (x.toUInt32 >>> (y.toUInt32 &&& Int32.toUInt32 31)).toInt32 :: st) σ Q) : nh_E K pc ls (.int y :: .int x :: st) σ Q := by
  intro p l e s m args below meth c H locs lsA D tA ad A Qc free C hP hD hS hl hq hf
  exact lv_iushr C.1 C.2.1 hd rfl (k p l e s m args below meth c H locs lsA D tA ad A Qc free C hP hD hS hl hq hf)
theorem nE_ladd {K : nh_K} {pc : Nat} {ls : List (Option Value)} {st : List Value} {σ : nh_S} {Q : Option Value → nh_S → Prop} {x y : Int64} (hd : decode K.2.1 pc = .ok (.ladd, 1)) (k : nh_E K (pc + 1) ls (.long (x + y) :: st) σ Q) : nh_E K pc ls (.long y :: .long x :: st) σ Q := by
  intro p l e s m args below meth c H locs lsA D tA ad A Qc free C hP hD hS hl hq hf
  exact lv_ladd C.1 C.2.1 hd (k p l e s m args below meth c H locs lsA D tA ad A Qc free C hP hD hS hl hq hf)
theorem nE_lsub {K : nh_K} {pc : Nat} {ls : List (Option Value)} {st : List Value} {σ : nh_S} {Q : Option Value → nh_S → Prop} {x y : Int64} (hd : decode K.2.1 pc = .ok (.lsub, 1)) (k : nh_E K (pc + 1) ls (.long (x - y) :: st) σ Q) : nh_E K pc ls (.long y :: .long x :: st) σ Q := by
  intro p l e s m args below meth c H locs lsA D tA ad A Qc free C hP hD hS hl hq hf
  exact lv_lsub C.1 C.2.1 hd (k p l e s m args below meth c H locs lsA D tA ad A Qc free C hP hD hS hl hq hf)
theorem nE_lmul {K : nh_K} {pc : Nat} {ls : List (Option Value)} {st : List Value} {σ : nh_S} {Q : Option Value → nh_S → Prop} {x y : Int64} (hd : decode K.2.1 pc = .ok (.lmul, 1)) (k : nh_E K (pc + 1) ls (.long (x * y) :: st) σ Q) : nh_E K pc ls (.long y :: .long x :: st) σ Q := by
  intro p l e s m args below meth c H locs lsA D tA ad A Qc free C hP hD hS hl hq hf
  exact lv_lmul C.1 C.2.1 hd (k p l e s m args below meth c H locs lsA D tA ad A Qc free C hP hD hS hl hq hf)
theorem nE_land {K : nh_K} {pc : Nat} {ls : List (Option Value)} {st : List Value} {σ : nh_S} {Q : Option Value → nh_S → Prop} {x y : Int64} (hd : decode K.2.1 pc = .ok (.land, 1)) (k : nh_E K (pc + 1) ls (.long (x &&& y) :: st) σ Q) : nh_E K pc ls (.long y :: .long x :: st) σ Q := by
  intro p l e s m args below meth c H locs lsA D tA ad A Qc free C hP hD hS hl hq hf
  exact lv_land C.1 C.2.1 hd (k p l e s m args below meth c H locs lsA D tA ad A Qc free C hP hD hS hl hq hf)
theorem nE_lor {K : nh_K} {pc : Nat} {ls : List (Option Value)} {st : List Value} {σ : nh_S} {Q : Option Value → nh_S → Prop} {x y : Int64} (hd : decode K.2.1 pc = .ok (.lor, 1)) (k : nh_E K (pc + 1) ls (.long (x ||| y) :: st) σ Q) : nh_E K pc ls (.long y :: .long x :: st) σ Q := by
  intro p l e s m args below meth c H locs lsA D tA ad A Qc free C hP hD hS hl hq hf
  exact lv_lor C.1 C.2.1 hd (k p l e s m args below meth c H locs lsA D tA ad A Qc free C hP hD hS hl hq hf)
theorem nE_ldiv {K : nh_K} {pc : Nat} {ls : List (Option Value)} {st : List Value} {σ : nh_S} {Q : Option Value → nh_S → Prop} {x y : Int64} (hd : decode K.2.1 pc = .ok (.ldiv, 1)) (hne : ¬ y = 0) (k : nh_E K (pc + 1) ls (.long (x / y) :: st) σ Q) : nh_E K pc ls (.long y :: .long x :: st) σ Q := by
  intro p l e s m args below meth c H locs lsA D tA ad A Qc free C hP hD hS hl hq hf
  exact lv_ldiv C.1 C.2.1 hd hne (k p l e s m args below meth c H locs lsA D tA ad A Qc free C hP hD hS hl hq hf)
theorem nE_lrem {K : nh_K} {pc : Nat} {ls : List (Option Value)} {st : List Value} {σ : nh_S} {Q : Option Value → nh_S → Prop} {x y : Int64} (hd : decode K.2.1 pc = .ok (.lrem, 1)) (hne : ¬ y = 0) (k : nh_E K (pc + 1) ls (.long (x - x / y * y) :: st) σ Q) : nh_E K pc ls (.long y :: .long x :: st) σ Q := by
  intro p l e s m args below meth c H locs lsA D tA ad A Qc free C hP hD hS hl hq hf
  exact lv_lrem C.1 C.2.1 hd hne (k p l e s m args below meth c H locs lsA D tA ad A Qc free C hP hD hS hl hq hf)
theorem nE_lushr {K : nh_K} {pc : Nat} {ls : List (Option Value)} {st : List Value} {σ : nh_S} {Q : Option Value → nh_S → Prop} {x : Int64} {y : Int32} (hd : decode K.2.1 pc = .ok (.lushr, 1)) (k : nh_E K (pc + 1) ls (.long (x.toUInt64 >>> (y.toInt64.toUInt64 &&& Int64.toUInt64 63)).toInt64 :: st) σ Q) : nh_E K pc ls (.int y :: .long x :: st) σ Q := by
  intro p l e s m args below meth c H locs lsA D tA ad A Qc free C hP hD hS hl hq hf
  exact lv_lushr C.1 C.2.1 hd rfl (k p l e s m args below meth c H locs lsA D tA ad A Qc free C hP hD hS hl hq hf)
theorem nE_lshl {K : nh_K} {pc : Nat} {ls : List (Option Value)} {st : List Value} {σ : nh_S} {Q : Option Value → nh_S → Prop} {x : Int64} {y : Int32} (hd : decode K.2.1 pc = .ok (.lshl, 1)) (k : nh_E K (pc + 1) ls (.long (x <<< (y.toInt64 &&& 63)) :: st) σ Q) : nh_E K pc ls (.int y :: .long x :: st) σ Q := by
  intro p l e s m args below meth c H locs lsA D tA ad A Qc free C hP hD hS hl hq hf
  exact lv_lshl C.1 C.2.1 hd rfl (k p l e s m args below meth c H locs lsA D tA ad A Qc free C hP hD hS hl hq hf)
theorem nE_lshr {K : nh_K} {pc : Nat} {ls : List (Option Value)} {st : List Value} {σ : nh_S} {Q : Option Value → nh_S → Prop} {x : Int64} {y : Int32} (hd : decode K.2.1 pc = .ok (.lshr, 1)) (k : nh_E K (pc + 1) ls (.long (x >>> (y.toInt64 &&& 63)) :: st) σ Q) : nh_E K pc ls (.int y :: .long x :: st) σ Q := by
  intro p l e s m args below meth c H locs lsA D tA ad A Qc free C hP hD hS hl hq hf
  exact lv_lshr C.1 C.2.1 hd rfl (k p l e s m args below meth c H locs lsA D tA ad A Qc free C hP hD hS hl hq hf)
theorem nE_lcmp {K : nh_K} {pc : Nat} {ls : List (Option Value)} {st : List Value} {σ : nh_S} {Q : Option Value → nh_S → Prop} {x y : Int64} (hd : decode K.2.1 pc = .ok (.lcmp, 1)) (k : nh_E K (pc + 1) ls (.int (lg_cmp x y) :: st) σ Q) : nh_E K pc ls (.long y :: .long x :: st) σ Q := by
  intro p l e s m args below meth c H locs lsA D tA ad A Qc free C hP hD hS hl hq hf
  exact W.lcmp C.1 C.2.1 hd (k p l e s m args below meth c H locs lsA D tA ad A Qc free C hP hD hS hl hq hf)
theorem nE_i2l {K : nh_K} {pc : Nat} {ls : List (Option Value)} {st : List Value} {σ : nh_S} {Q : Option Value → nh_S → Prop} {x : Int32} (hd : decode K.2.1 pc = .ok (.i2l, 1)) (k : nh_E K (pc + 1) ls (.long x.toInt64 :: st) σ Q) : nh_E K pc ls (.int x :: st) σ Q := by
  intro p l e s m args below meth c H locs lsA D tA ad A Qc free C hP hD hS hl hq hf
  exact lv_i2l C.1 C.2.1 hd rfl (k p l e s m args below meth c H locs lsA D tA ad A Qc free C hP hD hS hl hq hf)
theorem nE_l2i {K : nh_K} {pc : Nat} {ls : List (Option Value)} {st : List Value} {σ : nh_S} {Q : Option Value → nh_S → Prop} {x : Int64} (hd : decode K.2.1 pc = .ok (.l2i, 1)) (k : nh_E K (pc + 1) ls (.int x.toInt32 :: st) σ Q) : nh_E K pc ls (.long x :: st) σ Q := by
  intro p l e s m args below meth c H locs lsA D tA ad A Qc free C hP hD hS hl hq hf
  exact lv_l2i C.1 C.2.1 hd rfl (k p l e s m args below meth c H locs lsA D tA ad A Qc free C hP hD hS hl hq hf)
theorem nE_i2c {K : nh_K} {pc : Nat} {ls : List (Option Value)} {st : List Value} {σ : nh_S} {Q : Option Value → nh_S → Prop} {x : Int32} (hd : decode K.2.1 pc = .ok (.i2c, 1)) (k : nh_E K (pc + 1) ls (.int (x.toUInt32 % 65536).toInt32 :: st) σ Q) : nh_E K pc ls (.int x :: st) σ Q := by
  intro p l e s m args below meth c H locs lsA D tA ad A Qc free C hP hD hS hl hq hf
  exact lv_i2c C.1 C.2.1 hd rfl (k p l e s m args below meth c H locs lsA D tA ad A Qc free C hP hD hS hl hq hf)
theorem nE_dup {K : nh_K} {pc : Nat} {ls : List (Option Value)} {st : List Value} {σ : nh_S} {Q : Option Value → nh_S → Prop} {v : Value} (hd : decode K.2.1 pc = .ok (.dup, 1)) (hc : v.category = 1) (k : nh_E K (pc + 1) ls (v :: v :: st) σ Q) : nh_E K pc ls (v :: st) σ Q := by
  intro p l e s m args below meth c H locs lsA D tA ad A Qc free C hP hD hS hl hq hf
  exact lv_dup C.1 C.2.1 hd (by rw [nh_rv_cat]; exact hc) (k p l e s m args below meth c H locs lsA D tA ad A Qc free C hP hD hS hl hq hf)
theorem nE_pop {K : nh_K} {pc : Nat} {ls : List (Option Value)} {st : List Value} {σ : nh_S} {Q : Option Value → nh_S → Prop} {v : Value} (hd : decode K.2.1 pc = .ok (.pop, 1)) (hc : v.category = 1) (k : nh_E K (pc + 1) ls st σ Q) : nh_E K pc ls (v :: st) σ Q := by
  intro p l e s m args below meth c H locs lsA D tA ad A Qc free C hP hD hS hl hq hf
  exact lv_pop C.1 C.2.1 hd (by rw [nh_rv_cat]; exact hc) (k p l e s m args below meth c H locs lsA D tA ad A Qc free C hP hD hS hl hq hf)
theorem nE_dup2 {K : nh_K} {pc : Nat} {ls : List (Option Value)} {st : List Value} {σ : nh_S} {Q : Option Value → nh_S → Prop} {v u : Value} (hd : decode K.2.1 pc = .ok (.dup2, 1)) (hc : v.category = 1) (hc2 : u.category = 1) (k : nh_E K (pc + 1) ls (v :: u :: v :: u :: st) σ Q) : nh_E K pc ls (v :: u :: st) σ Q := by
  intro p l e s m args below meth c H locs lsA D tA ad A Qc free C hP hD hS hl hq hf
  exact lv_dup2_11 C.1 C.2.1 hd (by rw [nh_rv_cat]; exact hc) (by rw [nh_rv_cat]; exact hc2) (k p l e s m args below meth c H locs lsA D tA ad A Qc free C hP hD hS hl hq hf)
theorem nE_if_eq {K : nh_K} {pc : Nat} {ls : List (Option Value)} {st : List Value} {σ : nh_S} {Q : Option Value → nh_S → Prop} {x : Int32} {off : Int} {tgt : Nat} (hd : decode K.2.1 pc = .ok (.ifCond .eq off, 3)) (ht : (pc : Int) + off = (tgt : Int)) (k : (x = 0 → nh_E K tgt ls st σ Q) ∧ (¬ x = 0 → nh_E K (pc + 3) ls st σ Q)) : nh_E K pc ls (.int x :: st) σ Q := by
  intro p l e s m args below meth c H locs lsA D tA ad A Qc free C hP hD hS hl hq hf
  exact lv_if_eq C.1 C.2.1 hd ht (fun z => k.1 z p l e s m args below meth c H locs lsA D tA ad A Qc free C hP hD hS hl hq hf) (fun z => k.2 z p l e s m args below meth c H locs lsA D tA ad A Qc free C hP hD hS hl hq hf)
theorem nE_icmp_eq {K : nh_K} {pc : Nat} {ls : List (Option Value)} {st : List Value} {σ : nh_S} {Q : Option Value → nh_S → Prop} {x y : Int32} {off : Int} {tgt : Nat} (hd : decode K.2.1 pc = .ok (.if_icmp .eq off, 3)) (ht : (pc : Int) + off = (tgt : Int)) (k : (x = y → nh_E K tgt ls st σ Q) ∧ (¬ x = y → nh_E K (pc + 3) ls st σ Q)) : nh_E K pc ls (.int y :: .int x :: st) σ Q := by
  intro p l e s m args below meth c H locs lsA D tA ad A Qc free C hP hD hS hl hq hf
  exact lv_icmp_eq C.1 C.2.1 hd ht (fun z => k.1 z p l e s m args below meth c H locs lsA D tA ad A Qc free C hP hD hS hl hq hf) (fun z => k.2 z p l e s m args below meth c H locs lsA D tA ad A Qc free C hP hD hS hl hq hf)
theorem nE_if_ne {K : nh_K} {pc : Nat} {ls : List (Option Value)} {st : List Value} {σ : nh_S} {Q : Option Value → nh_S → Prop} {x : Int32} {off : Int} {tgt : Nat} (hd : decode K.2.1 pc = .ok (.ifCond .ne off, 3)) (ht : (pc : Int) + off = (tgt : Int)) (k : (¬ x = 0 → nh_E K tgt ls st σ Q) ∧ (x = 0 → nh_E K (pc + 3) ls st σ Q)) : nh_E K pc ls (.int x :: st) σ Q := by
  intro p l e s m args below meth c H locs lsA D tA ad A Qc free C hP hD hS hl hq hf
  exact lv_if_ne C.1 C.2.1 hd ht (fun z => k.1 z p l e s m args below meth c H locs lsA D tA ad A Qc free C hP hD hS hl hq hf) (fun z => k.2 z p l e s m args below meth c H locs lsA D tA ad A Qc free C hP hD hS hl hq hf)
theorem nE_icmp_ne {K : nh_K} {pc : Nat} {ls : List (Option Value)} {st : List Value} {σ : nh_S} {Q : Option Value → nh_S → Prop} {x y : Int32} {off : Int} {tgt : Nat} (hd : decode K.2.1 pc = .ok (.if_icmp .ne off, 3)) (ht : (pc : Int) + off = (tgt : Int)) (k : (¬ x = y → nh_E K tgt ls st σ Q) ∧ (x = y → nh_E K (pc + 3) ls st σ Q)) : nh_E K pc ls (.int y :: .int x :: st) σ Q := by
  intro p l e s m args below meth c H locs lsA D tA ad A Qc free C hP hD hS hl hq hf
  exact lv_icmp_ne C.1 C.2.1 hd ht (fun z => k.1 z p l e s m args below meth c H locs lsA D tA ad A Qc free C hP hD hS hl hq hf) (fun z => k.2 z p l e s m args below meth c H locs lsA D tA ad A Qc free C hP hD hS hl hq hf)
theorem nE_if_lt {K : nh_K} {pc : Nat} {ls : List (Option Value)} {st : List Value} {σ : nh_S} {Q : Option Value → nh_S → Prop} {x : Int32} {off : Int} {tgt : Nat} (hd : decode K.2.1 pc = .ok (.ifCond .lt off, 3)) (ht : (pc : Int) + off = (tgt : Int)) (k : (x < 0 → nh_E K tgt ls st σ Q) ∧ (¬ x < 0 → nh_E K (pc + 3) ls st σ Q)) : nh_E K pc ls (.int x :: st) σ Q := by
  intro p l e s m args below meth c H locs lsA D tA ad A Qc free C hP hD hS hl hq hf
  exact lv_if_lt C.1 C.2.1 hd ht (fun z => k.1 z p l e s m args below meth c H locs lsA D tA ad A Qc free C hP hD hS hl hq hf) (fun z => k.2 z p l e s m args below meth c H locs lsA D tA ad A Qc free C hP hD hS hl hq hf)
theorem nE_icmp_lt {K : nh_K} {pc : Nat} {ls : List (Option Value)} {st : List Value} {σ : nh_S} {Q : Option Value → nh_S → Prop} {x y : Int32} {off : Int} {tgt : Nat} (hd : decode K.2.1 pc = .ok (.if_icmp .lt off, 3)) (ht : (pc : Int) + off = (tgt : Int)) (k : (x < y → nh_E K tgt ls st σ Q) ∧ (¬ x < y → nh_E K (pc + 3) ls st σ Q)) : nh_E K pc ls (.int y :: .int x :: st) σ Q := by
  intro p l e s m args below meth c H locs lsA D tA ad A Qc free C hP hD hS hl hq hf
  exact lv_icmp_lt C.1 C.2.1 hd ht (fun z => k.1 z p l e s m args below meth c H locs lsA D tA ad A Qc free C hP hD hS hl hq hf) (fun z => k.2 z p l e s m args below meth c H locs lsA D tA ad A Qc free C hP hD hS hl hq hf)
theorem nE_if_ge {K : nh_K} {pc : Nat} {ls : List (Option Value)} {st : List Value} {σ : nh_S} {Q : Option Value → nh_S → Prop} {x : Int32} {off : Int} {tgt : Nat} (hd : decode K.2.1 pc = .ok (.ifCond .ge off, 3)) (ht : (pc : Int) + off = (tgt : Int)) (k : (0 ≤ x → nh_E K tgt ls st σ Q) ∧ (¬ 0 ≤ x → nh_E K (pc + 3) ls st σ Q)) : nh_E K pc ls (.int x :: st) σ Q := by
  intro p l e s m args below meth c H locs lsA D tA ad A Qc free C hP hD hS hl hq hf
  exact lv_if_ge C.1 C.2.1 hd ht (fun z => k.1 z p l e s m args below meth c H locs lsA D tA ad A Qc free C hP hD hS hl hq hf) (fun z => k.2 z p l e s m args below meth c H locs lsA D tA ad A Qc free C hP hD hS hl hq hf)
theorem nE_icmp_ge {K : nh_K} {pc : Nat} {ls : List (Option Value)} {st : List Value} {σ : nh_S} {Q : Option Value → nh_S → Prop} {x y : Int32} {off : Int} {tgt : Nat} (hd : decode K.2.1 pc = .ok (.if_icmp .ge off, 3)) (ht : (pc : Int) + off = (tgt : Int)) (k : (y ≤ x → nh_E K tgt ls st σ Q) ∧ (¬ y ≤ x → nh_E K (pc + 3) ls st σ Q)) : nh_E K pc ls (.int y :: .int x :: st) σ Q := by
  intro p l e s m args below meth c H locs lsA D tA ad A Qc free C hP hD hS hl hq hf
  exact lv_icmp_ge C.1 C.2.1 hd ht (fun z => k.1 z p l e s m args below meth c H locs lsA D tA ad A Qc free C hP hD hS hl hq hf) (fun z => k.2 z p l e s m args below meth c H locs lsA D tA ad A Qc free C hP hD hS hl hq hf)
theorem nE_if_gt {K : nh_K} {pc : Nat} {ls : List (Option Value)} {st : List Value} {σ : nh_S} {Q : Option Value → nh_S → Prop} {x : Int32} {off : Int} {tgt : Nat} (hd : decode K.2.1 pc = .ok (.ifCond .gt off, 3)) (ht : (pc : Int) + off = (tgt : Int)) (k : (0 < x → nh_E K tgt ls st σ Q) ∧ (¬ 0 < x → nh_E K (pc + 3) ls st σ Q)) : nh_E K pc ls (.int x :: st) σ Q := by
  intro p l e s m args below meth c H locs lsA D tA ad A Qc free C hP hD hS hl hq hf
  exact lv_if_gt C.1 C.2.1 hd ht (fun z => k.1 z p l e s m args below meth c H locs lsA D tA ad A Qc free C hP hD hS hl hq hf) (fun z => k.2 z p l e s m args below meth c H locs lsA D tA ad A Qc free C hP hD hS hl hq hf)
theorem nE_icmp_gt {K : nh_K} {pc : Nat} {ls : List (Option Value)} {st : List Value} {σ : nh_S} {Q : Option Value → nh_S → Prop} {x y : Int32} {off : Int} {tgt : Nat} (hd : decode K.2.1 pc = .ok (.if_icmp .gt off, 3)) (ht : (pc : Int) + off = (tgt : Int)) (k : (y < x → nh_E K tgt ls st σ Q) ∧ (¬ y < x → nh_E K (pc + 3) ls st σ Q)) : nh_E K pc ls (.int y :: .int x :: st) σ Q := by
  intro p l e s m args below meth c H locs lsA D tA ad A Qc free C hP hD hS hl hq hf
  exact lv_icmp_gt C.1 C.2.1 hd ht (fun z => k.1 z p l e s m args below meth c H locs lsA D tA ad A Qc free C hP hD hS hl hq hf) (fun z => k.2 z p l e s m args below meth c H locs lsA D tA ad A Qc free C hP hD hS hl hq hf)
theorem nE_if_le {K : nh_K} {pc : Nat} {ls : List (Option Value)} {st : List Value} {σ : nh_S} {Q : Option Value → nh_S → Prop} {x : Int32} {off : Int} {tgt : Nat} (hd : decode K.2.1 pc = .ok (.ifCond .le off, 3)) (ht : (pc : Int) + off = (tgt : Int)) (k : (x ≤ 0 → nh_E K tgt ls st σ Q) ∧ (¬ x ≤ 0 → nh_E K (pc + 3) ls st σ Q)) : nh_E K pc ls (.int x :: st) σ Q := by
  intro p l e s m args below meth c H locs lsA D tA ad A Qc free C hP hD hS hl hq hf
  exact lv_if_le C.1 C.2.1 hd ht (fun z => k.1 z p l e s m args below meth c H locs lsA D tA ad A Qc free C hP hD hS hl hq hf) (fun z => k.2 z p l e s m args below meth c H locs lsA D tA ad A Qc free C hP hD hS hl hq hf)
theorem nE_icmp_le {K : nh_K} {pc : Nat} {ls : List (Option Value)} {st : List Value} {σ : nh_S} {Q : Option Value → nh_S → Prop} {x y : Int32} {off : Int} {tgt : Nat} (hd : decode K.2.1 pc = .ok (.if_icmp .le off, 3)) (ht : (pc : Int) + off = (tgt : Int)) (k : (x ≤ y → nh_E K tgt ls st σ Q) ∧ (¬ x ≤ y → nh_E K (pc + 3) ls st σ Q)) : nh_E K pc ls (.int y :: .int x :: st) σ Q := by
  intro p l e s m args below meth c H locs lsA D tA ad A Qc free C hP hD hS hl hq hf
  exact lv_icmp_le C.1 C.2.1 hd ht (fun z => k.1 z p l e s m args below meth c H locs lsA D tA ad A Qc free C hP hD hS hl hq hf) (fun z => k.2 z p l e s m args below meth c H locs lsA D tA ad A Qc free C hP hD hS hl hq hf)
theorem nE_goto {K : nh_K} {pc : Nat} {ls : List (Option Value)} {st : List Value} {σ : nh_S} {Q : Option Value → nh_S → Prop} {off : Int} {tgt : Nat} (hd : decode K.2.1 pc = .ok (.goto off, 3)) (ht : (pc : Int) + off = (tgt : Int)) (k : nh_E K tgt ls st σ Q) : nh_E K pc ls st σ Q := by
  intro p l e s m args below meth c H locs lsA D tA ad A Qc free C hP hD hS hl hq hf
  exact lv_goto C.1 C.2.1 hd ht (k p l e s m args below meth c H locs lsA D tA ad A Qc free C hP hD hS hl hq hf)
theorem nE_tabIn {K : nh_K} {pc : Nat} {ls : List (Option Value)} {st : List Value} {σ : nh_S} {Q : Option Value → nh_S → Prop} {dflt lo hi : Int} {offs : Array Int} {len : Nat} {x : Int32} {off : Int} {tgt : Nat} (hd : decode K.2.1 pc = .ok (.tableswitch dflt lo hi offs, len)) (h1 : ¬ x.toInt < lo) (h2 : ¬ hi < x.toInt) (ho : offs[(x.toInt - lo).toNat]? = some off) (ht : (pc : Int) + off = (tgt : Int)) (k : nh_E K tgt ls st σ Q) : nh_E K pc ls (.int x :: st) σ Q := by
  intro p l e s m args below meth c H locs lsA D tA ad A Qc free C hP hD hS hl hq hf
  exact lv_tableIn C.1 C.2.1 hd h1 h2 ho ht (k p l e s m args below meth c H locs lsA D tA ad A Qc free C hP hD hS hl hq hf)
theorem nE_tabOut {K : nh_K} {pc : Nat} {ls : List (Option Value)} {st : List Value} {σ : nh_S} {Q : Option Value → nh_S → Prop} {dflt lo hi : Int} {offs : Array Int} {len : Nat} {x : Int32} {tgt : Nat} (hd : decode K.2.1 pc = .ok (.tableswitch dflt lo hi offs, len)) (h : x.toInt < lo ∨ hi < x.toInt) (ht : (pc : Int) + dflt = (tgt : Int)) (k : nh_E K tgt ls st σ Q) : nh_E K pc ls (.int x :: st) σ Q := by
  intro p l e s m args below meth c H locs lsA D tA ad A Qc free C hP hD hS hl hq hf
  exact lv_tableOut C.1 C.2.1 hd h ht (k p l e s m args below meth c H locs lsA D tA ad A Qc free C hP hD hS hl hq hf)
/-- a class of the world: its name, fields, types -/
def nh_CI (ci : Nat) (C : String) (T : u_T) (N : Nat) (ty0 : Nat → FieldType) : Prop := vwCl[ci]? = some (C, T, N) ∧ (∀ w ∈ u_ws C T N, w ∈ nh_tb) ∧ (∀ k, k < N → parseFieldDescriptor (T k).2.2.1 = some (ty0 k)) ∧ ∀ a, a < N → ∀ b, b < N → a ≠ b → (T a).2.1 ≠ (T b).2.1
/-- an entry of a class's pool that names a field: slot j of class ci, its type, whether it is final -/
def nh_FL (own : String) (idx ci j : Nat) (ty : FieldType) (fin : Bool) : Prop := ∃ (C : String) (T : u_T) (N : Nat) (ty0 : Nat → FieldType), nh_CI ci C T N ty0 ∧ j < N ∧ Cond.fieldLink own idx (T j).1 (T j).2.1 (T j).2.2.1 ∈ nh_tb ∧ ty0 j = ty ∧ (T j).2.2.2 = fin
theorem nE_getV {K : nh_K} {pc : Nat} {ls : List (Option Value)} {st : List Value} {σ : nh_S} {Q : Option Value → nh_S → Prop} {k ci j idx : Nat} {kds : List (Option (Option Nat))} {kd : Option (Option Nat)} {ty : FieldType} {fin : Bool} (hfl : nh_FL K.1 idx ci j ty fin) (hsh : K.2.2.2.2.2[k]? = some (.inr (ci, kds))) (hkd : kds[j]? = some kd) (hd : decode K.2.1 pc = .ok (.getfield idx, 3)) (kk : nh_E K (pc + 3) ls (nh_av σ k j kd :: st) σ Q) : nh_E K pc ls (.ref k :: st) σ Q := by
  intro p l e s m args below meth c H locs lsA D tA ad A Qc free C hP hD hS hl hq hf
  obtain ⟨C0, T, N, ty0, hc, hj, hlk, -, -⟩ := hfl
  exact va_get (D := D) (ref := (T j).1) C.1 C.2.1 C.2.2.2.2.2.2.1 hc.2.1 C.2.2.2.2.2.1 C.2.2.2.2.2.2.2.1 hP k (nh_ws_at hsh tA ad σ) hc.1 j hj (C.2.2.2.2.2.2.1 _ hlk) (fun _ h => h) (nh_fs_at hkd ad σ k) hd (kk p l e s m args below meth c H locs lsA D tA ad A Qc free C hP hD hS hl hq hf)
theorem nE_getI {K : nh_K} {pc : Nat} {ls : List (Option Value)} {st : List Value} {σ : nh_S} {Q : Option Value → nh_S → Prop} {k ci j idx : Nat} {kds : List (Option (Option Nat))} {ty : FieldType} {fin : Bool} (hfl : nh_FL K.1 idx ci j ty fin) (hsh : K.2.2.2.2.2[k]? = some (.inr (ci, kds))) (hkd : kds[j]? = some none) (hd : decode K.2.1 pc = .ok (.getfield idx, 3)) (kk : nh_E K (pc + 3) ls (.int (σ.1 k j) :: st) σ Q) : nh_E K pc ls (.ref k :: st) σ Q := nE_getV hfl hsh hkd hd kk
theorem nE_getC {K : nh_K} {pc : Nat} {ls : List (Option Value)} {st : List Value} {σ : nh_S} {Q : Option Value → nh_S → Prop} {k ci j idx r : Nat} {kds : List (Option (Option Nat))} {ty : FieldType} {fin : Bool} (hfl : nh_FL K.1 idx ci j ty fin) (hsh : K.2.2.2.2.2[k]? = some (.inr (ci, kds))) (hkd : kds[j]? = some (some (some r))) (hd : decode K.2.1 pc = .ok (.getfield idx, 3)) (kk : nh_E K (pc + 3) ls (.ref r :: st) σ Q) : nh_E K pc ls (.ref k :: st) σ Q := nE_getV hfl hsh hkd hd kk
theorem nE_getR {K : nh_K} {pc : Nat} {ls : List (Option Value)} {st : List Value} {σ : nh_S} {Q : Option Value → nh_S → Prop} {k ci j idx : Nat} {kds : List (Option (Option Nat))} {ty : FieldType} {fin : Bool} (hfl : nh_FL K.1 idx ci j ty fin) (hsh : K.2.2.2.2.2[k]? = some (.inr (ci, kds))) (hkd : kds[j]? = some (some none)) (hd : decode K.2.1 pc = .ok (.getfield idx, 3)) (kk : nh_E K (pc + 3) ls (.ref (σ.2.2 k j) :: st) σ Q) : nh_E K pc ls (.ref k :: st) σ Q := nE_getV hfl hsh hkd hd kk
theorem nE_putI {K : nh_K} {pc : Nat} {ls : List (Option Value)} {st : List Value} {σ : nh_S} {Q : Option Value → nh_S → Prop} {k ci j idx : Nat} {x : Int32} {kds : List (Option (Option Nat))} {ty : FieldType} (hfl : nh_FL K.1 idx ci j ty false) (hsh : K.2.2.2.2.2[k]? = some (.inr (ci, kds))) (hkd : kds[j]? = some none) (hn : narrow ty (.int x) = .int x ∧ fits ty (.int x) = true) (hd : decode K.2.1 pc = .ok (.putfield idx, 3)) (kk : nh_E K (pc + 3) ls st (nh_si σ k j x) Q) : nh_E K pc ls (.int x :: .ref k :: st) σ Q := by
  intro p l e s m args below meth c H locs lsA D tA ad A Qc free C hP hD hS hl hq hf
  obtain ⟨C0, T, N, ty0, hc, hj, hlk, hty, hfin⟩ := hfl
  refine va_put (D := D) (ref := (T j).1) (ty := ty) (v := .int x) C.1 C.2.1 C.2.2.2.2.2.2.1 hc.2.1 ty0 hc.2.2.1 hc.2.2.2 C.2.2.2.2.2.1 C.2.2.2.2.2.2.2.1 hP hD hS k (nh_ws_at hsh tA ad σ) hc.1 j hj (C.2.2.2.2.2.2.1 _ hlk) (fun _ h => h) hfin (by rw [hc.2.2.1 j hj, hty]) hn.1 hn.2 (by rw [nh_fs_len]; exact (List.getElem?_eq_some_iff.mp hkd).1) hd (fun H1 locs1 hP1 hD1 hS1 => ?_)
  rw [nh_ws_si hsh hkd] at hP1 hD1
  exact kk p l e s m args below meth c H1 locs1 lsA D tA ad A Qc free C hP1 hD1 hS1 hl hq hf
theorem nE_putR {K : nh_K} {pc : Nat} {ls : List (Option Value)} {st : List Value} {σ : nh_S} {Q : Option Value → nh_S → Prop} {k ci j idx x : Nat} {kds : List (Option (Option Nat))} {ty : FieldType} (hfl : nh_FL K.1 idx ci j ty false) (hsh : K.2.2.2.2.2[k]? = some (.inr (ci, kds))) (hkd : kds[j]? = some (some none)) (hn : ∀ a : Nat, narrow ty (.ref a) = .ref a ∧ fits ty (.ref a) = true) (hd : decode K.2.1 pc = .ok (.putfield idx, 3)) (kk : nh_E K (pc + 3) ls st (nh_sr σ k j x) Q) : nh_E K pc ls (.ref x :: .ref k :: st) σ Q := by
  intro p l e s m args below meth c H locs lsA D tA ad A Qc free C hP hD hS hl hq hf
  obtain ⟨C0, T, N, ty0, hc, hj, hlk, hty, hfin⟩ := hfl
  refine va_put (D := D) (ref := (T j).1) (ty := ty) (v := .ref (ad x)) C.1 C.2.1 C.2.2.2.2.2.2.1 hc.2.1 ty0 hc.2.2.1 hc.2.2.2 C.2.2.2.2.2.1 C.2.2.2.2.2.2.2.1 hP hD hS k (nh_ws_at hsh tA ad σ) hc.1 j hj (C.2.2.2.2.2.2.1 _ hlk) (fun _ h => h) hfin (by rw [hc.2.2.1 j hj, hty]) (hn _).1 (hn _).2 (by rw [nh_fs_len]; exact (List.getElem?_eq_some_iff.mp hkd).1) hd (fun H1 locs1 hP1 hD1 hS1 => ?_)
  rw [nh_ws_sr hsh hkd] at hP1 hD1
  exact kk p l e s m args below meth c H1 locs1 lsA D tA ad A Qc free C hP1 hD1 hS1 hl hq hf
theorem nE_iald {K : nh_K} {pc : Nat} {ls : List (Option Value)} {st : List Value} {σ : nh_S} {Q : Option Value → nh_S → Prop} {k n : Nat} {i : Int32} (hsh : K.2.2.2.2.2[k]? = some (.inl (.int, n, none))) (hd : decode K.2.1 pc = .ok (.iaload, 1)) (kk : vp_in i n ∧ nh_E K (pc + 1) ls (.int (σ.2.1 k i.toNatClampNeg) :: st) σ Q) : nh_E K pc ls (.int i :: .ref k :: st) σ Q := by
  intro p l e s m args below meth c H locs lsA D tA ad A Qc free C hP hD hS hl hq hf
  exact va_iald (f := σ.2.1 k) C.1 C.2.1 C.2.2.2.2.2.2.2.1 hP k 0 (nh_ws_at hsh tA ad σ) rfl kk.1 hd (kk.2 p l e s m args below meth c H locs lsA D tA ad A Qc free C hP hD hS hl hq hf)
theorem nE_cald {K : nh_K} {pc : Nat} {ls : List (Option Value)} {st : List Value} {σ : nh_S} {Q : Option Value → nh_S → Prop} {k n : Nat} {i : Int32} (hsh : K.2.2.2.2.2[k]? = some (.inl (.char, n, none))) (hd : decode K.2.1 pc = .ok (.caload, 1)) (kk : vp_in i n ∧ nh_E K (pc + 1) ls (.int (σ.2.1 k i.toNatClampNeg) :: st) σ Q) : nh_E K pc ls (.int i :: .ref k :: st) σ Q := by
  intro p l e s m args below meth c H locs lsA D tA ad A Qc free C hP hD hS hl hq hf
  exact va_cald (f := σ.2.1 k) C.1 C.2.1 C.2.2.2.2.2.2.2.1 hP k 1 (nh_ws_at hsh tA ad σ) rfl kk.1 hd (kk.2 p l e s m args below meth c H locs lsA D tA ad A Qc free C hP hD hS hl hq hf)
theorem nE_zald {K : nh_K} {pc : Nat} {ls : List (Option Value)} {st : List Value} {σ : nh_S} {Q : Option Value → nh_S → Prop} {k n : Nat} {i : Int32} (hsh : K.2.2.2.2.2[k]? = some (.inl (.boolean, n, none))) (hd : decode K.2.1 pc = .ok (.baload, 1)) (kk : vp_in i n ∧ nh_E K (pc + 1) ls (.int (σ.2.1 k i.toNatClampNeg) :: st) σ Q) : nh_E K pc ls (.int i :: .ref k :: st) σ Q := by
  intro p l e s m args below meth c H locs lsA D tA ad A Qc free C hP hD hS hl hq hf
  exact va_zald (f := σ.2.1 k) C.1 C.2.1 C.2.2.2.2.2.2.2.1 hP k 2 (nh_ws_at hsh tA ad σ) rfl kk.1 hd (kk.2 p l e s m args below meth c H locs lsA D tA ad A Qc free C hP hD hS hl hq hf)
theorem nE_iast {K : nh_K} {pc : Nat} {ls : List (Option Value)} {st : List Value} {σ : nh_S} {Q : Option Value → nh_S → Prop} {k n : Nat} {i x : Int32} (hsh : K.2.2.2.2.2[k]? = some (.inl (.int, n, none))) (hd : decode K.2.1 pc = .ok (.iastore, 1)) (kk : vp_in i n ∧ nh_E K (pc + 1) ls st (nh_sa σ k (upd (σ.2.1 k) i.toNatClampNeg x)) Q) : nh_E K pc ls (.int x :: .int i :: .ref k :: st) σ Q := by
  intro p l e s m args below meth c H locs lsA D tA ad A Qc free C hP hD hS hl hq hf
  refine va_iast (f := σ.2.1 k) C.1 C.2.1 C.2.2.2.2.2.2.2.1 hP hD hS k 0 (nh_ws_at hsh tA ad σ) rfl kk.1 hd (fun H1 locs1 hP1 hD1 hS1 => ?_)
  rw [nh_ws_sa hsh] at hP1 hD1
  exact kk.2 p l e s m args below meth c H1 locs1 lsA D tA ad A Qc free C hP1 hD1 hS1 hl hq hf
theorem nE_cast {K : nh_K} {pc : Nat} {ls : List (Option Value)} {st : List Value} {σ : nh_S} {Q : Option Value → nh_S → Prop} {k n : Nat} {i x : Int32} (hsh : K.2.2.2.2.2[k]? = some (.inl (.char, n, none))) (hd : decode K.2.1 pc = .ok (.castore, 1)) (kk : vp_in i n ∧ nh_E K (pc + 1) ls st (nh_sa σ k (upd (σ.2.1 k) i.toNatClampNeg (vp_nar .char x))) Q) : nh_E K pc ls (.int x :: .int i :: .ref k :: st) σ Q := by
  intro p l e s m args below meth c H locs lsA D tA ad A Qc free C hP hD hS hl hq hf
  refine va_cast (f := σ.2.1 k) C.1 C.2.1 C.2.2.2.2.2.2.2.1 hP hD hS k 1 (nh_ws_at hsh tA ad σ) rfl kk.1 hd (fun H1 locs1 hP1 hD1 hS1 => ?_)
  rw [nh_ws_sa hsh] at hP1 hD1
  exact kk.2 p l e s m args below meth c H1 locs1 lsA D tA ad A Qc free C hP1 hD1 hS1 hl hq hf
theorem nE_zast {K : nh_K} {pc : Nat} {ls : List (Option Value)} {st : List Value} {σ : nh_S} {Q : Option Value → nh_S → Prop} {k n : Nat} {i x : Int32} (hsh : K.2.2.2.2.2[k]? = some (.inl (.boolean, n, none))) (hd : decode K.2.1 pc = .ok (.bastore, 1)) (kk : vp_in i n ∧ nh_E K (pc + 1) ls st (nh_sa σ k (upd (σ.2.1 k) i.toNatClampNeg (vp_nar .boolean x))) Q) : nh_E K pc ls (.int x :: .int i :: .ref k :: st) σ Q := by
  intro p l e s m args below meth c H locs lsA D tA ad A Qc free C hP hD hS hl hq hf
  refine va_zast (f := σ.2.1 k) C.1 C.2.1 C.2.2.2.2.2.2.2.1 hP hD hS k 2 (nh_ws_at hsh tA ad σ) rfl kk.1 hd (fun H1 locs1 hP1 hD1 hS1 => ?_)
  rw [nh_ws_sa hsh] at hP1 hD1
  exact kk.2 p l e s m args below meth c H1 locs1 lsA D tA ad A Qc free C hP1 hD1 hS1 hl hq hf
theorem nE_aald {K : nh_K} {pc : Nat} {ls : List (Option Value)} {st : List Value} {σ : nh_S} {Q : Option Value → nh_S → Prop} {k n b : Nat} {i : Int32} (hsh : K.2.2.2.2.2[k]? = some (.inl (.array .int, n, some b))) (hd : decode K.2.1 pc = .ok (.aaload, 1)) (kk : vp_in i n ∧ nh_E K (pc + 1) ls (.ref (b + i.toNatClampNeg) :: st) σ Q) : nh_E K pc ls (.int i :: .ref k :: st) σ Q := by
  intro p l e s m args below meth c H locs lsA D tA ad A Qc free C hP hD hS hl hq hf
  have hlt : i.toNatClampNeg < n := Nat.not_le.mp fun q => kk.1 (Or.inr q)
  have hat : H[ad k]? = some (vp_cell (tA (.array .int)) (n, .inr (.inr (.inr (.inr (fun i => if i < n then some (ad (b + i)) else none)))))) := hP k _ (nh_ws_at hsh tA ad σ)
  exact W.aald (v := .ref (ad (b + i.toNatClampNeg))) (ty := .array .int) C.1 C.2.1 hat ((C.2.2.2.2.2.2.2.1.2 3 _ rfl).1 n (fun j => va_rf (if j < n then some (ad (b + j)) else none))) rfl (fun q => by cases q) (by show ¬ (i < 0 ∨ (arrV _ _ _).slots.size ≤ _); rw [arrV_size]; exact kk.1) (by show (arrV _ _ _).slots[_]? = _; rw [arrV_read _ _ hlt]; show some (va_rf (if i.toNatClampNeg < n then some (ad (b + i.toNatClampNeg)) else none)) = _; rw [if_pos hlt]; rfl) rfl rfl hd (kk.2 p l e s m args below meth c H locs lsA D tA ad A Qc free C hP hD hS hl hq hf)
theorem nE_alen {K : nh_K} {pc : Nat} {ls : List (Option Value)} {st : List Value} {σ : nh_S} {Q : Option Value → nh_S → Prop} {k n : Nat} {ty : FieldType} (t0 : Nat) (ht : ∀ tA, (nh_ty tA)[t0]? = some (tA ty, ty)) (hsh : K.2.2.2.2.2[k]? = some (.inl (ty, n, none))) (hd : decode K.2.1 pc = .ok (.arraylength, 1)) (kk : nh_E K (pc + 1) ls (.int (Int32.ofNat n) :: st) σ Q) : nh_E K pc ls (.ref k :: st) σ Q := by
  intro p l e s m args below meth c H locs lsA D tA ad A Qc free C hP hD hS hl hq hf
  exact va_alen C.1 C.2.1 C.2.2.2.2.2.2.2.1 hP k t0 (nh_ws_at hsh tA ad σ) (ht tA) rfl hd (kk p l e s m args below meth c H locs lsA D tA ad A Qc free C hP hD hS hl hq hf)
theorem nE_iret {K : nh_K} {pc : Nat} {ls : List (Option Value)} {σ : nh_S} {Q : Option Value → nh_S → Prop} {x : Int32} (hd : decode K.2.1 pc = .ok (.ireturn, 1)) (hr : K.2.2.2.1 = some .int) (h : Q (some (.int x)) σ) : nh_E K pc ls [.int x] σ Q := by
  intro p l e s m args below meth c H locs lsA D tA ad A Qc free C hP hD hS hl hq hf
  exact W.iret (v := x) C.1 C.2.1 (by rw [C.2.2.2.1, hr]) (fun t ht hW => hq _ σ t locs h (by rw [ht]; exact hP) hD (by rw [ht]; exact hS) hW) (fun q h1 => hf _ (hS.2.2 q h1)) hd C.2.2.2.2.1
theorem nE_zret {K : nh_K} {pc : Nat} {ls : List (Option Value)} {σ : nh_S} {Q : Option Value → nh_S → Prop} {x : Int32} {ty : FieldType} (hd : decode K.2.1 pc = .ok (.ireturn, 1)) (hr : K.2.2.2.1 = some ty) (hn : narrow ty (.int x) = .int x) (h : Q (some (.int x)) σ) : nh_E K pc ls [.int x] σ Q := by
  intro p l e s m args below meth c H locs lsA D tA ad A Qc free C hP hD hS hl hq hf
  exact W.zret (v := x) (ty := ty) C.1 C.2.1 (by rw [C.2.2.2.1, hr]) hn (fun t ht hW => hq _ σ t locs h (by rw [ht]; exact hP) hD (by rw [ht]; exact hS) hW) (fun q h1 => hf _ (hS.2.2 q h1)) hd C.2.2.2.2.1
theorem nE_lret {K : nh_K} {pc : Nat} {ls : List (Option Value)} {σ : nh_S} {Q : Option Value → nh_S → Prop} {x : Int64} (hd : decode K.2.1 pc = .ok (.lreturn, 1)) (hr : K.2.2.2.1 = some .long) (h : Q (some (.long x)) σ) : nh_E K pc ls [.long x] σ Q := by
  intro p l e s m args below meth c H locs lsA D tA ad A Qc free C hP hD hS hl hq hf
  exact W.lret (v := x) C.1 C.2.1 (by rw [C.2.2.2.1, hr]) (fun t ht hW => hq _ σ t locs h (by rw [ht]; exact hP) hD (by rw [ht]; exact hS) hW) (fun q h1 => hf _ (hS.2.2 q h1)) hd C.2.2.2.2.1
theorem nE_vret {K : nh_K} {pc : Nat} {ls : List (Option Value)} {σ : nh_S} {Q : Option Value → nh_S → Prop} (hd : decode K.2.1 pc = .ok (.return_, 1)) (hr : K.2.2.2.1 = none) (h : Q none σ) : nh_E K pc ls [] σ Q := by
  intro p l e s m args below meth c H locs lsA D tA ad A Qc free C hP hD hS hl hq hf
  exact W.vret C.1 C.2.1 (by rw [C.2.2.2.1, hr]) (fun t ht hW => hq _ σ t locs h (by rw [ht]; exact hP) hD (by rw [ht]; exact hS) hW) (fun q h1 => hf _ (hS.2.2 q h1)) hd C.2.2.2.2.1
