/-! CONSTRUCTORS: a judgement over a growing world -/
def ng_nst : List (String × Nat × MethodName × String) := [(RX8, 11, yX6_init, "NineHouses"), (RX8, 18, yX2_init, "NineHouses"), (RX8, 31, yX7_init, "NineHouses"), (RX8, 38, yX5_init, "NineHouses"), (RX8, 48, yX0_init, "NineHouses"), (RX0, 11, yX4_init, "NineHouses"), (RX8, 55, yX1_init, "NineHouses"), (RX1, 31, yX5_init, "NineHouses"), (RX8, 72, yX3_init, "NineHouses"), (RX8, 82, yX4_init, "NineHouses")]
def ng_X (s : State) : Prop := (∀ q ∈ ng_nst, va_Nw (.methodLinkNest q.1 q.2.1 q.2.2.1 q.2.2.2) s) ∧ (Cond.arrayOver (.array .int)).before #[] s = true
theorem ng_X.warm {s U : State} (h : ng_X s) (hW : s.WarmedH U.vm) : ng_X U := ⟨fun q hq => (h.1 q hq).warmM hW, arrayOver_alikeB hW.alike h.2⟩
/-- a constructor's frame: the object a of class ci has the fields fs; pre stands ahead of it, post behind; kc cells of ks slots are new -/
def ng_E (K : nh_K) (D : va_G) (tA : FieldType → ClassId) (ad : Nat → Nat) (A : Nat → Prop) (pc : Nat) (ls : List (Option Value)) (st : List Value) (pre : va_W) (a ci : Nat) (fs : List Value) (post : va_W) (kc ks : Nat) (Q : va_W → Prop) : Prop :=
  ∀ (p : Program) (l : Launch) (e : Env) (s : State) (m : MethodId) (args : Array Value) (below : List Frame) (meth : Method) (c : Code) (H : Heap) (locs : List Loc) (lsA : Array Slot) (Qc : Array Value → State → Outcome → State → Prop) (free : Addr → Prop),
    nh_C K p s m args meth c D tA ad A → meth.name = "<init>" → ng_X s → va_P D vwCl (pre ++ (a, .inr (ci, fs)) :: post) H → va_D A (pre ++ (a, .inr (ci, fs)) :: post) → va_S A s.heap H locs → nh_has id lsA K.2.2.1 ls →
    (∀ (ws : va_W) (t : State) (locs' : List Loc), Q ws → va_P D vwCl ws t.heap → va_D A ws → va_S A s.heap t.heap locs' → s.WarmedH t.vm → Qc args s (.returned none) t) →
    (∀ q, A q → free q) →
    W p l e K.2.2.2.2.1 s m args below meth c H locs kc ks (MQ below Qc args s K.2.2.2.2.1.cells K.2.2.2.2.1.slots free) (F0 m pc lsA st)
theorem ng_set (pre post : va_W) (x y : Nat × va_E) : (pre ++ x :: post).set pre.length y = pre ++ y :: post := by simp
theorem ng_at (pre post : va_W) (x : Nat × va_E) : (pre ++ x :: post)[pre.length]? = some x := by simp
theorem ng_push (pre post : va_W) (x y : Nat × va_E) : (pre ++ x :: post) ++ [y] = pre ++ x :: (post ++ [y]) := by simp
theorem ng_RA {U : State} {c c' : ClassId} {ty : FieldType} (ho : ∀ C, ty ≠ .object C) (h : va_RA U c ty) (h' : va_RA U c' ty) : c = c' := by
  cases ty with
  | object C => exact absurd rfl (ho C)
  | _ => exact Option.some.inj (Eq.trans (Eq.symm h) h')
theorem ng_aload_n {K : nh_K} {D : va_G} {tA : FieldType → ClassId} {ad : Nat → Nat} {A : Nat → Prop} {pc : Nat} {ls : List (Option Value)} {st : List Value} {pre : va_W} {a ci : Nat} {fs : List Value} {post : va_W} {kc ks : Nat} {Q : va_W → Prop} {j : _root_.Fin 4} {i x : Nat} (hd : decode K.2.1 pc = .ok (.aload_n j, 1)) (hi : (j : Nat) = i) (hx : ls[i]? = some (some (.ref x))) (kk : ng_E K D tA ad A (pc + 1) ls (.ref x :: st) pre a ci (fs) (post) (kc) (ks) Q) : ng_E K D tA ad A (pc) ls (st) pre a ci (fs) (post) (kc) (ks) Q := by
  intro p l e s m args below meth c H locs lsA Qc free C hin hX hP hD hS hl hq hf
  exact lv_aload_n C.1 C.2.1 hd hi (show lsA[i]? = some (.val (.ref x)) from hl.2.2.2 _ _ hx) (kk p l e s m args below meth c H locs lsA Qc free C hin hX hP hD hS hl hq hf)
theorem ng_dup {K : nh_K} {D : va_G} {tA : FieldType → ClassId} {ad : Nat → Nat} {A : Nat → Prop} {pc : Nat} {ls : List (Option Value)} {st : List Value} {pre : va_W} {a ci : Nat} {fs : List Value} {post : va_W} {kc ks : Nat} {Q : va_W → Prop} {v : Value} (hd : decode K.2.1 pc = .ok (.dup, 1)) (hc : v.category = 1) (kk : ng_E K D tA ad A (pc + 1) ls (v :: v :: st) pre a ci (fs) (post) (kc) (ks) Q) : ng_E K D tA ad A (pc) ls (v :: st) pre a ci (fs) (post) (kc) (ks) Q := by
  intro p l e s m args below meth c H locs lsA Qc free C hin hX hP hD hS hl hq hf
  exact lv_dup C.1 C.2.1 hd hc (kk p l e s m args below meth c H locs lsA Qc free C hin hX hP hD hS hl hq hf)
theorem ng_iconst {K : nh_K} {D : va_G} {tA : FieldType → ClassId} {ad : Nat → Nat} {A : Nat → Prop} {pc : Nat} {ls : List (Option Value)} {st : List Value} {pre : va_W} {a ci : Nat} {fs : List Value} {post : va_W} {kc ks : Nat} {Q : va_W → Prop} {n : Int} {v : Int32} (hd : decode K.2.1 pc = .ok (.iconst n, 1)) (hv : Int32.ofInt n = v) (kk : ng_E K D tA ad A (pc + 1) ls (.int v :: st) pre a ci (fs) (post) (kc) (ks) Q) : ng_E K D tA ad A (pc) ls (st) pre a ci (fs) (post) (kc) (ks) Q := by
  intro p l e s m args below meth c H locs lsA Qc free C hin hX hP hD hS hl hq hf
  exact lv_iconst C.1 C.2.1 hd hv (kk p l e s m args below meth c H locs lsA Qc free C hin hX hP hD hS hl hq hf)
theorem ng_bipush {K : nh_K} {D : va_G} {tA : FieldType → ClassId} {ad : Nat → Nat} {A : Nat → Prop} {pc : Nat} {ls : List (Option Value)} {st : List Value} {pre : va_W} {a ci : Nat} {fs : List Value} {post : va_W} {kc ks : Nat} {Q : va_W → Prop} {n : Int} {v : Int32} (hd : decode K.2.1 pc = .ok (.bipush n, 2)) (hv : (Int8.ofInt n).toInt32 = v) (kk : ng_E K D tA ad A (pc + 2) ls (.int v :: st) pre a ci (fs) (post) (kc) (ks) Q) : ng_E K D tA ad A (pc) ls (st) pre a ci (fs) (post) (kc) (ks) Q := by
  intro p l e s m args below meth c H locs lsA Qc free C hin hX hP hD hS hl hq hf
  exact lv_bipush C.1 C.2.1 hd hv (kk p l e s m args below meth c H locs lsA Qc free C hin hX hP hD hS hl hq hf)
theorem ng_sipush {K : nh_K} {D : va_G} {tA : FieldType → ClassId} {ad : Nat → Nat} {A : Nat → Prop} {pc : Nat} {ls : List (Option Value)} {st : List Value} {pre : va_W} {a ci : Nat} {fs : List Value} {post : va_W} {kc ks : Nat} {Q : va_W → Prop} {n : Int} {v : Int32} (hd : decode K.2.1 pc = .ok (.sipush n, 3)) (hv : (Int16.ofInt n).toInt32 = v) (kk : ng_E K D tA ad A (pc + 3) ls (.int v :: st) pre a ci (fs) (post) (kc) (ks) Q) : ng_E K D tA ad A (pc) ls (st) pre a ci (fs) (post) (kc) (ks) Q := by
  intro p l e s m args below meth c H locs lsA Qc free C hin hX hP hD hS hl hq hf
  exact lv_sipush C.1 C.2.1 hd hv (kk p l e s m args below meth c H locs lsA Qc free C hin hX hP hD hS hl hq hf)
theorem ng_obj {K : nh_K} {D : va_G} {tA : FieldType → ClassId} {ad : Nat → Nat} {A : Nat → Prop} {pc : Nat} {ls : List (Option Value)} {st : List Value} {pre : va_W} {a ci : Nat} {fs : List Value} {post : va_W} {kc ks : Nat} {Q : va_W → Prop} {idx x : Nat} (hw : Cond.methodLink K.1 idx Lib.objectInit ∈ nh_tb ∧ Cond.instanceMethod Lib.objectInit ∈ nh_tb ∧ Cond.code Lib.objectInit ⟨#[0xb1]⟩ 1 none ∈ nh_tb) (hrm : 1 ≤ K.2.2.2.2.1.frames ∧ 12 ≤ K.2.2.2.2.1.locals) (hd : decode K.2.1 pc = .ok (.invokespecial idx, 3)) (kk : ng_E K D tA ad A (pc + 3) ls ([]) pre a ci (fs) (post) (kc) (ks) Q) : ng_E K D tA ad A (pc) ls ([.ref x]) pre a ci (fs) (post) (kc) (ks) Q := by
  intro p l e s m args below meth c H locs lsA Qc free C hin hX hP hD hS hl hq hf
  refine W.objInit C.1 C.2.1 C.2.2.2.2.2.1 (C.2.2.2.2.2.2.1 _ hw.1) (C.2.2.2.2.2.2.1 _ hw.2.1) (C.2.2.2.2.2.2.1 _ hw.2.2) rfl (by show lsA.size = _; rw [hl.1, C.2.2.1]) rfl hd hrm.1 (Nat.le_trans (Nat.le_of_eq rfl) hrm.2) ?_
  exact W.eq (g2 := F0 m (pc + 3) lsA []) rfl (kk p l e s m args below meth c H locs lsA Qc free C hin hX hP hD hS hl hq hf)
theorem ng_newa {K : nh_K} {D : va_G} {tA : FieldType → ClassId} {ad : Nat → Nat} {A : Nat → Prop} {pc : Nat} {ls : List (Option Value)} {st : List Value} {pre : va_W} {a ci : Nat} {fs : List Value} {post : va_W} {kc ks : Nat} {Q : va_W → Prop} {n : Nat} {ty : FieldType} {x : Int32} {atype : ArrayType} (t0 : Nat) (ht : (nh_ty tA)[t0]? = some (tA ty, ty)) (hty : newarray.typeOf atype = ty) (hdef : defaultValue ty = .int 0) (hob : ∀ C, ty ≠ .object C) (harr : Cond.arrayClass (newarray.typeOf atype) ∈ nh_tb) (hx : x = nI n) (hn : n ≤ 5000) (hb : n * componentBytes ty ≤ 536870912) (hc : kc + 1 ≤ K.2.2.2.2.1.cells) (hs : ks + n ≤ K.2.2.2.2.1.slots) (hd : decode K.2.1 pc = .ok (.newarray atype, 2)) (kk : ∀ q, ng_E K D tA ad A (pc + 2) ls (.ref q :: st) pre a ci (fs) (post ++ [(q, .inl (tA ty, n, .inl (fun _ => 0)))]) (kc + 1) (ks + n) Q) : ng_E K D tA ad A (pc) ls (.int x :: st) pre a ci (fs) (post) (kc) (ks) Q := by
  intro p l e s m args below meth c H locs lsA Qc free C hin hX hP hD hS hl hq hf
  refine va_newa (a0 := (n, .inl (fun _ => 0))) C.1 C.2.1 (C.2.2.2.2.2.2.1 _ harr) hty C.2.2.2.2.2.2.2.1 hP hD hS C.2.2.2.2.2.2.2.2.1 (fun cA => by rw [vp_cell_i, hdef]) (by rw [hx]; exact nI_pos (by omega)) (by rw [hx]; exact nI_clamp (by omega)) hb hc hs hd (fun q cA H1 hK1 hP1 hD1 hS1 => ?_)
  have e1 : cA = tA ty := ng_RA hob (hK1.2 4 (cA, ty) rfl).2 ((C.2.2.2.2.2.2.2.1).2 t0 _ ht).2
  rw [e1, ng_push] at hP1 hD1
  exact kk q p l e s m args below meth c H1 locs lsA Qc free C hin hX hP1 hD1 hS1 hl hq hf
theorem ng_new {K : nh_K} {D : va_G} {tA : FieldType → ClassId} {ad : Nat → Nat} {A : Nat → Prop} {pc : Nat} {ls : List (Option Value)} {st : List Value} {pre : va_W} {a ci : Nat} {fs : List Value} {post : va_W} {kc ks : Nat} {Q : va_W → Prop} {C0 : String} {T : u_T} {N ci' idx : Nat} {ty0 : Nat → FieldType} {fs' : List Value} (hc0 : nh_CI ci' C0 T N ty0) (hcl : Cond.classLink K.1 idx C0 ∈ nh_tb ∧ Cond.instantiable C0 N ∈ nh_tb ∧ Cond.initialized C0 ∈ nh_tb) (hfs : ∀ j, j < N → defaultValue (ty0 j) = vp_V fs' j) (hc : kc + 1 ≤ K.2.2.2.2.1.cells) (hs : ks + N ≤ K.2.2.2.2.1.slots) (hd : decode K.2.1 pc = .ok (.new idx, 3)) (kk : ∀ q, ng_E K D tA ad A (pc + 3) ls (.ref q :: st) pre a ci (fs) (post ++ [(q, .inr (ci', fs'))]) (kc + 1) (ks + N) Q) : ng_E K D tA ad A (pc) ls (st) pre a ci (fs) (post) (kc) (ks) Q := by
  intro p l e s m args below meth c H locs lsA Qc free C hin hX hP hD hS hl hq hf
  refine va_new (ci := ci') (fs := fs') C.1 C.2.1 C.2.2.2.2.2.2.1 hc0.2.1 ty0 hc0.2.2.1 C.2.2.2.2.2.1 (C.2.2.2.2.2.2.1 _ hcl.1) (C.2.2.2.2.2.2.1 _ hcl.2.1) (C.2.2.2.2.2.2.1 _ hcl.2.2) C.2.2.2.2.2.2.2.1 hP hD hS C.2.2.2.2.2.2.2.2.1 hc0.1 hfs hc hs hd (fun q H1 hP1 hD1 hS1 => ?_)
  rw [ng_push] at hP1 hD1
  exact kk q p l e s m args below meth c H1 locs lsA Qc free C hin hX hP1 hD1 hS1 hl hq hf
theorem ng_putF {K : nh_K} {D : va_G} {tA : FieldType → ClassId} {ad : Nat → Nat} {A : Nat → Prop} {pc : Nat} {ls : List (Option Value)} {st : List Value} {pre : va_W} {a ci : Nat} {fs : List Value} {post : va_W} {kc ks : Nat} {Q : va_W → Prop} {idx j : Nat} {ty : FieldType} {v : Value} (hfl : nh_FL K.1 idx ci j ty true) (hdecl : ∀ C0 T N, vwCl[ci]? = some (C0, T, N) → (T j).1 = K.1) (hn : narrow ty v = v ∧ fits ty v = true) (hj : j < fs.length) (hd : decode K.2.1 pc = .ok (.putfield idx, 3)) (kk : ng_E K D tA ad A (pc + 3) ls (st) pre a ci (fs.set j v) (post) (kc) (ks) Q) : ng_E K D tA ad A (pc) ls (v :: .ref a :: st) pre a ci (fs) (post) (kc) (ks) Q := by
  intro p l e s m args below meth c H locs lsA Qc free C hin hX hP hD hS hl hq hf
  obtain ⟨C0, T, N, ty0, hc, hjN, hlk, hty, hfin⟩ := hfl
  refine va_putF (D := D) (ref := (T j).1) (ty := ty) (v := v) C.1 C.2.1 C.2.2.2.2.2.2.1 hc.2.1 ty0 hc.2.2.1 hc.2.2.2 C.2.2.2.2.2.1 C.2.2.2.2.2.2.2.1 hP hD hS pre.length (ng_at _ _ _) hc.1 j hjN (C.2.2.2.2.2.2.1 _ hlk) (fun _ h => h) hfin hin (hdecl _ _ _ hc.1) (by rw [hc.2.2.1 j hjN, hty]) hn.1 hn.2 hj hd (fun H1 locs1 hP1 hD1 hS1 => ?_)
  rw [ng_set] at hP1 hD1
  exact kk p l e s m args below meth c H1 locs1 lsA Qc free C hin hX hP1 hD1 hS1 hl hq hf
theorem ng_put {K : nh_K} {D : va_G} {tA : FieldType → ClassId} {ad : Nat → Nat} {A : Nat → Prop} {pc : Nat} {ls : List (Option Value)} {st : List Value} {pre : va_W} {a ci : Nat} {fs : List Value} {post : va_W} {kc ks : Nat} {Q : va_W → Prop} {idx j : Nat} {ty : FieldType} {v : Value} (hfl : nh_FL K.1 idx ci j ty false) (hn : narrow ty v = v ∧ fits ty v = true) (hj : j < fs.length) (hd : decode K.2.1 pc = .ok (.putfield idx, 3)) (kk : ng_E K D tA ad A (pc + 3) ls (st) pre a ci (fs.set j v) (post) (kc) (ks) Q) : ng_E K D tA ad A (pc) ls (v :: .ref a :: st) pre a ci (fs) (post) (kc) (ks) Q := by
  intro p l e s m args below meth c H locs lsA Qc free C hin hX hP hD hS hl hq hf
  obtain ⟨C0, T, N, ty0, hc, hjN, hlk, hty, hfin⟩ := hfl
  refine va_put (D := D) (ref := (T j).1) (ty := ty) (v := v) C.1 C.2.1 C.2.2.2.2.2.2.1 hc.2.1 ty0 hc.2.2.1 hc.2.2.2 C.2.2.2.2.2.1 C.2.2.2.2.2.2.2.1 hP hD hS pre.length (ng_at _ _ _) hc.1 j hjN (C.2.2.2.2.2.2.1 _ hlk) (fun _ h => h) hfin (by rw [hc.2.2.1 j hjN, hty]) hn.1 hn.2 hj hd (fun H1 locs1 hP1 hD1 hS1 => ?_)
  rw [ng_set] at hP1 hD1
  exact kk p l e s m args below meth c H1 locs1 lsA Qc free C hin hX hP1 hD1 hS1 hl hq hf
theorem ng_get {K : nh_K} {D : va_G} {tA : FieldType → ClassId} {ad : Nat → Nat} {A : Nat → Prop} {pc : Nat} {ls : List (Option Value)} {st : List Value} {pre : va_W} {a ci : Nat} {fs : List Value} {post : va_W} {kc ks : Nat} {Q : va_W → Prop} {idx j : Nat} {ty : FieldType} {fin : Bool} {v : Value} (hfl : nh_FL K.1 idx ci j ty fin) (hv : fs[j]? = some v) (hd : decode K.2.1 pc = .ok (.getfield idx, 3)) (kk : ng_E K D tA ad A (pc + 3) ls (v :: st) pre a ci (fs) (post) (kc) (ks) Q) : ng_E K D tA ad A (pc) ls (.ref a :: st) pre a ci (fs) (post) (kc) (ks) Q := by
  intro p l e s m args below meth c H locs lsA Qc free C hin hX hP hD hS hl hq hf
  obtain ⟨C0, T, N, ty0, hc, hj, hlk, -, -⟩ := hfl
  exact va_get (D := D) (ref := (T j).1) C.1 C.2.1 C.2.2.2.2.2.2.1 hc.2.1 C.2.2.2.2.2.1 C.2.2.2.2.2.2.2.1 hP pre.length (ng_at _ _ _) hc.1 j hj (C.2.2.2.2.2.2.1 _ hlk) (fun _ h => h) hv hd (kk p l e s m args below meth c H locs lsA Qc free C hin hX hP hD hS hl hq hf)
theorem ng_ret {K : nh_K} {D : va_G} {tA : FieldType → ClassId} {ad : Nat → Nat} {A : Nat → Prop} {pc : Nat} {ls : List (Option Value)} {st : List Value} {pre : va_W} {a ci : Nat} {fs : List Value} {post : va_W} {kc ks : Nat} {Q : va_W → Prop} (hr : K.2.2.2.1 = none) (hd : decode K.2.1 pc = .ok (.return_, 1)) (hk : kc ≤ K.2.2.2.2.1.cells ∧ ks ≤ K.2.2.2.2.1.slots) (h : Q (pre ++ (a, .inr (ci, fs)) :: post)) : ng_E K D tA ad A (pc) ls ([]) pre a ci (fs) (post) (kc) (ks) Q := by
  intro p l e s m args below meth c H locs lsA Qc free C hin hX hP hD hS hl hq hf
  refine W.widen hk.1 hk.2 ?_
  exact W.vret C.1 C.2.1 (by rw [C.2.2.2.1, hr]) (fun t ht hW => hq _ t locs h (by rw [ht]; exact hP) hD (by rw [ht]; exact hS) hW) (fun q h1 => hf _ (hS.2.2 q h1)) hd C.2.2.2.2.1
/-- a constructor that can be called -/
def ng_Y (K : nh_K) (y : MethodName) (n : Nat) : Prop := Cond.code y K.2.1 K.2.2.1 K.2.2.2.1 ∈ nh_tb ∧ K.1 = y.cls ∧ Cond.initialized y.cls ∈ nh_tb ∧ plainName y.cls = true ∧ (y.cls ≠ "java/lang/invoke/MethodHandle" ∧ y.cls ≠ "java/lang/invoke/VarHandle" ∧ (parseMethodDescriptor y.desc).map (fun d => d.parameters.length) = some n) ∧ y.name = "<init>" ∧ Cond.instanceMethod y ∈ nh_tb ∧ K.2.2.2.1 = none
theorem ng_wd_good {K' : nh_K} {y : MethodName} {n : Nat} (h : ng_Y K' y n) : GoodIn nh_tb (nh_wd K' y) := by
  intro w hw
  rcases List.mem_cons.mp hw with rfl | hw
  · exact ⟨h.1, good_of_word (nh_good _ h.1)⟩
  · exact ⟨hw, good_of_word (nh_good _ hw)⟩
def ng_W (D : va_G) (tA : FieldType → ClassId) (ad : Nat → Nat) (A : Nat → Prop) (ws : va_W) (U : State) : Prop :=
  va_P D vwCl ws U.heap ∧ va_D A ws ∧ va_K D vwCl (nh_ty tA) U ∧ (∀ q : Nat, U.heap.size ≤ q → A q) ∧ nh_X ad A U ∧ ng_X U
def ng_Z (D : va_G) (A : Nat → Prop) (Q : va_W → Prop) : Array Value → State → Outcome → State → Prop := fun _ s oc t =>
  ∃ ws : va_W, oc = .returned none ∧ Q ws ∧ va_P D vwCl ws t.heap ∧ va_D A ws ∧ va_F A s t
set_option maxHeartbeats 1000000 in
theorem ng_met {K : nh_K} {y : MethodName} {n : Nat} (l : Launch) (D : va_G) (tA : FieldType → ClassId) (ad : Nat → Nat) (A : Nat → Prop) {As : List Value} {pre : va_W} {a ci : Nat} {fs : List Value} {Q : va_W → Prop} (hy : ng_Y K y n) (hfit : (As.flatMap nh_e1).length ≤ K.2.2.1) (hE : ng_E K D tA ad A 0 (nh_en K.2.2.1 As) [] pre a ci fs [] 0 0 Q) :
    Met l y (nh_wd K y) K.2.2.2.2.1 (va_Pc As (ng_W D tA ad A (pre ++ [(a, .inr (ci, fs))]))) (ng_Z D A Q) K.2.2.2.2.1.cells K.2.2.2.2.1.slots A := by
  refine Met.ofW (cc := K.2.1) (maxL := K.2.2.1) (ret := K.2.2.2.1) hy.2.2.2.1 rfl ?_
  intro p e s m args below meth c s₁ B hml hv
  obtain ⟨rfl, hP, hD, hK, hA, hX, hX2⟩ := hv
  have hts := atoms_spec (ws := nh_wd K y) B.pre
  have hown : s.vm.findClass y.cls = some m.cls := findClass_of_methodNamed B.named
  have hin : meth.name = "<init>" := (name_of_methodNamed B.named B.method).1.trans hy.2.2.2.2.2.1
  have eid : ∀ vs : List Value, vs.map (nh_rv id) = vs := fun vs => by
    induction vs with
    | nil => rfl
    | cons v vs ih => rw [List.map_cons, ih]; cases v <;> rfl
  have hlen : (lg_sl As).length ≤ K.2.2.1 := by rw [← eid As, nh_en_len]; exact hfit
  have hl := lv_entry As (n := K.2.2.1) hlen
  rw [lg_entry_eq]
  generalize (lg_sl As ++ List.replicate (K.2.2.1 - (lg_sl As).length) Slot.unset).toArray = lsA at hl ⊢
  have hh : nh_has id lsA K.2.2.1 (nh_en K.2.2.1 As) := by
    refine ⟨hl.1, hl.2.1, ?_, fun i v hi => ?_⟩
    · unfold nh_en
      rw [List.length_append, List.length_replicate]
      omega
    · have h1 := nh_en_args id As _ 0 i v hi
      rw [Nat.zero_add, eid] at h1
      exact hl.2.2 _ h1
  refine hE p l e s m _ below meth c s.heap [] lsA _ A ⟨B.exec, B.bytes, hml, B.returns, B.notSynchronized, by rw [hy.2.1]; exact hown, fun w hw => hts w (List.mem_cons_of_mem _ hw), hK, hA, hX⟩ hin hX2 hP hD va_S.rf hh ?_ (fun _ h => h)
  intro ws t locs' h1 h2 h3 h4 h5
  exact ⟨ws, rfl, h1, h2, h3, ⟨h4.1, h4.2.1⟩⟩
theorem ng_blind (D : va_G) (tA : FieldType → ClassId) (ad : Nat → Nat) (A : Nat → Prop) (ws : va_W) (av : List Value) : FrameBlind (va_Pc av (ng_W D tA ad A ws)) := by
  intro a U g mk h
  obtain ⟨h0, hP, hD, hK, hA, hX, hX2⟩ := h
  have hW : U.vm.Alike (U.calling g mk a).vm := Vm.Alike.refl U.vm
  refine ⟨h0, hP, hD, va_K.moved (u := U) (U := U.calling g mk a) hW hK, hA, ?_, ⟨fun q hq => (hX2.1 q hq).same rfl (u := U) (U := U.calling g mk a) rfl, arrayOver_alikeB (s := U) (U := U.calling g mk a) hW hX2.2⟩⟩
  obtain ⟨x1, x2, x3, x5, x4⟩ := hX
  exact ⟨vk_S.moved (u := U) (U := U.calling g mk a) hW x1, fun q hq => (x2 q hq).same (u := U) (U := U.calling g mk a) rfl, va_Z.moved (u := U) (U := U.calling g mk a) hW x3, x5.imp (fun z => va_Z.moved (u := U) (U := U.calling g mk a) hW z) (fun z => va_Z.moved (u := U) (U := U.calling g mk a) hW z), fun q hq => (x4 q hq).same rfl (u := U) (U := U.calling g mk a) rfl⟩
/-- behind a constructor's call -/
theorem ng_back {K : nh_K} {D : va_G} {tA : FieldType → ClassId} {ad : Nat → Nat} {A : Nat → Prop} {pc : Nat} {ls : List (Option Value)} {st : List Value} {pre : va_W} {a ci : Nat} {fs : List Value} {post : va_W} {kc ks : Nat} {Q : va_W → Prop} {p : Program} {l : Launch} {e : Env} {s : State} {m : MethodId} {args : Array Value} {below : List Frame} {meth : Method} {c : Code} {H : Heap} {locs : List Loc} {lsA : Array Slot} {Qc : Array Value → State → Outcome → State → Prop} {free : Addr → Prop} {mc ms q ci' : Nat} {st0 : List Value} {av : Array Value}
    (C : nh_C K p s m args meth c D tA ad A) (hin : meth.name = "<init>") (hX : ng_X s) (hS : va_S A s.heap H locs) (hl : nh_has id lsA K.2.2.1 ls)
    (hq : ∀ (ws : va_W) (t : State) (locs' : List Loc), Q ws → va_P D vwCl ws t.heap → va_D A ws → va_S A s.heap t.heap locs' → s.WarmedH t.vm → Qc args s (.returned none) t) (hf : ∀ q, A q → free q)
    (hr : va_Run p l e K.2.2.2.2.1 s m args below meth c H locs kc ks mc ms (F0 m pc lsA st0) st (ng_Z D A (fun ws => ∃ (fs2 : List Value) (post2 : va_W), ws = (pre ++ (a, .inr (ci, fs)) :: post) ++ (q, .inr (ci', fs2)) :: post2 ∧ ng_E K D tA ad A (pc + 3) ls st pre a ci fs (post ++ (q, .inr (ci', fs2)) :: post2) (kc + mc) (ks + ms) Q) av) A) :
    W p l e K.2.2.2.2.1 s m args below meth c H locs kc ks (MQ below Qc args s K.2.2.2.2.1.cells K.2.2.2.2.1.slots free) (F0 m pc lsA st0) := by
  intro T hT X
  obtain ⟨v, st₀, t, T', L, h0, X', hL, e1, e2, ⟨ws, hv, ⟨fs2, post2, hw, hE⟩, hP1, hD1, hF⟩, go⟩ := hr T hT X
  cases hv
  subst hw
  have hS1 : va_S A s.heap t.heap (locs ++ L) := by
    refine ⟨Nat.le_trans hS.1 (by rw [← h0]; exact hF.1), fun q h1 h2 => ?_, fun q hq => ?_⟩
    · rw [hF.2 q (by rw [h0]; exact Nat.lt_of_lt_of_le h1 hS.1) h2, h0]
      exact hS.2.1 q h1 h2
    · rcases List.mem_append.mp hq with h | h
      · exact hS.2.2 q h
      · exact hL q h
  rw [List.append_assoc, List.cons_append] at hP1 hD1
  have hk := hE p l e s m args below meth c t.heap (locs ++ L) lsA Qc free C hin hX hP1 hD1 hS1 hl hq hf
  obtain ⟨t2, a1, b1⟩ := hk T' e1 X'
  exact ⟨t2, go t2 a1, b1⟩
set_option maxHeartbeats 1000000 in
theorem ng_callN {K : nh_K} {D : va_G} {tA : FieldType → ClassId} {ad : Nat → Nat} {A : Nat → Prop} {pc : Nat} {ls : List (Option Value)} {st : List Value} {pre : va_W} {a ci : Nat} {fs : List Value} {post : va_W} {kc ks : Nat} {Q : va_W → Prop} {K' : nh_K} {y : MethodName} {n idx q ci' : Nat} {host : String} {As fs' : List Value} (hy : ng_Y K' y n) (hrm : nh_rm K K') (hcs : kc + K'.2.2.2.2.1.cells ≤ K.2.2.2.2.1.cells ∧ ks + K'.2.2.2.2.1.slots ≤ K.2.2.2.2.1.slots) (hw : (K.1, idx, y, host) ∈ ng_nst) (hd : decode K.2.1 pc = .ok (.invokespecial idx, 3)) (hn : As.length = n) (h8 : (st.map fun v => v.category).sum ≤ 8) (hfit : ((Value.ref q :: As).flatMap nh_e1).length ≤ K'.2.2.1)
    (kk : ng_E K' D tA ad A 0 (nh_en K'.2.2.1 (.ref q :: As)) [] (pre ++ (a, .inr (ci, fs)) :: post) q ci' fs' [] 0 0 (fun ws => ∃ (fs2 : List Value) (post2 : va_W), ws = (pre ++ (a, .inr (ci, fs)) :: post) ++ (q, .inr (ci', fs2)) :: post2 ∧ ng_E K D tA ad A (pc + 3) ls st pre a ci fs (post ++ (q, .inr (ci', fs2)) :: post2) (kc + K'.2.2.2.2.1.cells) (ks + K'.2.2.2.2.1.slots) Q)) : ng_E K D tA ad A pc ls (As.reverse ++ .ref q :: st) pre a ci fs (post ++ [(q, .inr (ci', fs'))]) kc ks Q := by
  intro p l e s m args below meth c H locs lsA Qc free C hin hX hP hD hS hl hq hf
  have hM := ng_met l D tA ad A hy hfit kk
  rw [← ng_push] at hP hD
  exact ng_back C hin hX hS hl hq hf (va_runIN (b := q) (As := As) (rest := st) (Ts := nh_tb) ⟨C.1, C.2.1, C.2.2.1, C.2.2.2.2.2.1, C.2.2.2.2.2.2.1⟩ hM ⟨va_cnB (host := host) n C.2.2.2.2.2.2.1 (ng_wd_good hy) rfl rfl rfl (hX.1 _ hw) (C.2.2.2.2.2.2.1 _ hy.2.2.1) hy.2.2.2.2.1 hrm |> (fun z => by have e := hy.2.2.2.2.2.2.2; rw [e] at z; exact z), hy.2.2.2.2.2.1, C.2.2.2.2.2.2.1 _ hy.2.2.2.2.2.2.1⟩ ⟨ng_blind D tA ad A _ _, fun U hU hW => ⟨rfl, by rw [hU]; exact hP, hD, va_K.moved hW.alike C.2.2.2.2.2.2.2.1, fun q hq => C.2.2.2.2.2.2.2.2.1 q (Nat.le_trans hS.1 (by rw [← hU]; exact hq)), (C.2.2.2.2.2.2.2.2.2).call hS hU hW, hX.warm hW⟩⟩ rfl hn hl.1 rfl (lv_room h8) hd hcs)
set_option maxHeartbeats 1000000 in
theorem ng_callI {K : nh_K} {D : va_G} {tA : FieldType → ClassId} {ad : Nat → Nat} {A : Nat → Prop} {pc : Nat} {ls : List (Option Value)} {st : List Value} {pre : va_W} {a ci : Nat} {fs : List Value} {post : va_W} {kc ks : Nat} {Q : va_W → Prop} {K' : nh_K} {y : MethodName} {n idx q ci' : Nat} {As fs' : List Value} (hy : ng_Y K' y n) (hrm : nh_rm K K') (hcs : kc + K'.2.2.2.2.1.cells ≤ K.2.2.2.2.1.cells ∧ ks + K'.2.2.2.2.1.slots ≤ K.2.2.2.2.1.slots) (hw : Cond.methodLink K.1 idx y ∈ nh_tb) (hd : decode K.2.1 pc = .ok (.invokespecial idx, 3)) (hn : As.length = n) (h8 : (st.map fun v => v.category).sum ≤ 8) (hfit : ((Value.ref q :: As).flatMap nh_e1).length ≤ K'.2.2.1)
    (kk : ng_E K' D tA ad A 0 (nh_en K'.2.2.1 (.ref q :: As)) [] (pre ++ (a, .inr (ci, fs)) :: post) q ci' fs' [] 0 0 (fun ws => ∃ (fs2 : List Value) (post2 : va_W), ws = (pre ++ (a, .inr (ci, fs)) :: post) ++ (q, .inr (ci', fs2)) :: post2 ∧ ng_E K D tA ad A (pc + 3) ls st pre a ci fs (post ++ (q, .inr (ci', fs2)) :: post2) (kc + K'.2.2.2.2.1.cells) (ks + K'.2.2.2.2.1.slots) Q)) : ng_E K D tA ad A pc ls (As.reverse ++ .ref q :: st) pre a ci fs (post ++ [(q, .inr (ci', fs'))]) kc ks Q := by
  intro p l e s m args below meth c H locs lsA Qc free C hin hX hP hD hS hl hq hf
  have hM := ng_met l D tA ad A hy hfit kk
  rw [← ng_push] at hP hD
  exact ng_back C hin hX hS hl hq hf (va_runI (b := q) (As := As) (rest := st) (Ts := nh_tb) ⟨C.1, C.2.1, C.2.2.1, C.2.2.2.2.2.1, C.2.2.2.2.2.2.1⟩ hM ⟨callB_of n C.2.2.2.2.2.2.1 (ng_wd_good hy) rfl rfl rfl (C.2.2.2.2.2.2.1 _ hy.2.2.1) (C.2.2.2.2.2.2.1 _ hw) hy.2.2.2.2.1 hrm |> (fun z => by have e := hy.2.2.2.2.2.2.2; rw [e] at z; exact z), hy.2.2.2.2.2.1, C.2.2.2.2.2.2.1 _ hy.2.2.2.2.2.2.1⟩ ⟨ng_blind D tA ad A _ _, fun U hU hW => ⟨rfl, by rw [hU]; exact hP, hD, va_K.moved hW.alike C.2.2.2.2.2.2.2.1, fun q hq => C.2.2.2.2.2.2.2.2.1 q (Nat.le_trans hS.1 (by rw [← hU]; exact hq)), (C.2.2.2.2.2.2.2.2.2).call hS hU hW, hX.warm hW⟩⟩ rfl hn hl.1 rfl (lv_room h8) hd hcs)
/-! a grid -/
theorem ng_outerM (c : ClassId) (N h0 : Nat) : ∀ i, (Multi.outerC c N h0 i).monitor = {} ∧ (Multi.outerC c N h0 i).hash = none
  | 0 => ⟨rfl, rfl⟩
  | i + 1 => by
    obtain ⟨h1, h2⟩ := ng_outerM c N h0 i
    exact ⟨by simp [Multi.outerC, Cell.setSlot, h1], by simp [Multi.outerC, Cell.setSlot, h2]⟩
theorem ng_cell {x y : Cell} (h1 : x.cls = y.cls) (h2 : x.slots = y.slots) (h3 : x.monitor = y.monitor) (h4 : x.hash = y.hash) (h5 : x.vm = y.vm) : x = y := by
  cases x; cases y
  simp only at h1 h2 h3 h4 h5
  subst h1; subst h2; subst h3; subst h4; subst h5
  rfl
theorem ng_outer (c : ClassId) (N h0 : Nat) : Multi.outerC c N h0 N = vp_cell c (N, .inr (.inr (.inr (.inr (fun i => if i < N then some (h0 + 1 + i) else none))))) := by
  obtain ⟨f1, f2, f3⟩ := Multi.outerC_facts c N h0 N
  obtain ⟨m1, m2⟩ := ng_outerM c N h0 N
  refine ng_cell f1 ?_ m1 m2 f2
  apply Array.ext_getElem?
  intro j
  show (Multi.outerC c N h0 N).slots[j]? = (arrV c N (fun j => va_rf (if j < N then some (h0 + 1 + j) else none))).slots[j]?
  by_cases hj : j < N
  · rw [Multi.outerC_slot c N h0 N j hj, arrV_read _ _ hj, if_pos hj, if_pos hj]
    rfl
  · rw [Array.getElem?_eq_none (by omega), Array.getElem?_eq_none (by rw [arrV_size]; omega)]
theorem ng_inner (c : ClassId) (M : Nat) : Multi.innerC c M (.int 0) = vp_cell c (M, .inl (fun _ => 0)) := by
  refine ng_cell rfl ?_ rfl rfl rfl
  apply Array.ext_getElem?
  intro j
  show (Array.replicate M (Value.int 0))[j]? = (arrV c M (fun _ => .int 0)).slots[j]?
  by_cases hj : j < M
  · rw [arrV_read _ _ hj]
    simp [hj]
  · rw [Array.getElem?_eq_none (by simp; omega), Array.getElem?_eq_none (by rw [arrV_size]; omega)]
abbrev ng_grid (tA : FieldType → ClassId) (q n k : Nat) : va_W := (q, .inl (tA (.array .int), n, .inr (.inr (.inr (.inr (fun i => if i < n then some (q + 1 + i) else none)))))) :: (List.range n).map (fun i => (q + 1 + i, .inl (tA .int, k, .inl (fun _ => 0))))
set_option maxHeartbeats 1000000 in
theorem ng_multi {K : nh_K} {D : va_G} {tA : FieldType → ClassId} {ad : Nat → Nat} {A : Nat → Prop} {pc : Nat} {ls : List (Option Value)} {st : List Value} {pre : va_W} {a ci : Nat} {fs : List Value} {post : va_W} {kc ks : Nat} {Q : va_W → Prop} {idx n k : Nat} {x y : Int32} (hcl : Cond.classLink K.1 idx "[[I" ∈ nh_tb ∧ Cond.arrayClass .int ∈ nh_tb) (hx : x = nI n) (hy : y = nI k) (hn : n ≤ 100) (hk : k ≤ 100) (hc : kc + (1 + n) ≤ K.2.2.2.2.1.cells) (hs : ks + (n + n * k) ≤ K.2.2.2.2.1.slots) (hd : decode K.2.1 pc = .ok (.multianewarray idx 2, 4)) (kk : ∀ q, ng_E K D tA ad A (pc + 4) ls (.ref q :: st) pre a ci (fs) (post ++ ng_grid tA q n k) (kc + 1 + n) (ks + n + n * k) Q) : ng_E K D tA ad A (pc) ls (.int y :: .int x :: st) pre a ci (fs) (post) (kc) (ks) Q := by
  intro p l e s m args below meth c H locs lsA Qc free C hin hX hP hD hS hl hq hf
  intro T hT X
  have en : x.toNatClampNeg = n := by rw [hx]; exact nI_clamp (by omega)
  have ek : y.toNatClampNeg = k := by rw [hy]; exact nI_clamp (by omega)
  obtain ⟨vm₁, cA, comp, hW, hfA, hfC, hO, hI, X1, go⟩ := X.multianewarray2F (own := K.1) (index := idx) (ty := .int) C.1 C.2.2.2.2.2.1 (C.2.2.2.2.2.2.1 _ hcl.1) (arrayOver_alikeB (Vm.Alike.refl _) hX.2) (C.2.2.2.2.2.2.1 _ hcl.2) (g := F0 m pc lsA (.int y :: .int x :: st)) rfl (by rw [C.2.1]; exact hd) (n := x) (k := y) (rest := st) rfl (by rw [hx]; exact nI_pos (by omega)) (by rw [hy]; exact nI_pos (by omega)) (by rw [en]; omega) (by rw [ek]; show k * 4 ≤ _; omega) (by rw [ek]; omega) rfl rfl (by rw [en]; exact hc) (by rw [en, ek]; exact hs)
  rw [en, ek] at X1 go
  have eA : cA = tA (.array .int) := ng_RA (U := s) (ty := .array .int) (fun C => by intro z; cases z) hfA ((C.2.2.2.2.2.2.2.1).2 3 _ rfl).2
  have eC : comp = tA .int := ng_RA (U := s) (ty := .int) (fun C => by intro z; cases z) hfC ((C.2.2.2.2.2.2.2.1).2 0 _ rfl).2
  subst eA
  subst eC
  obtain ⟨f1, f2, f3, f4⟩ := Multi.fill_facts (T.setVm vm₁) (tA (.array .int)) (tA .int) n k (defaultValue .int) n
  have fo := fun (a : Addr) (ha : a < T.heap.size) => Multi.fill_old (T.setVm vm₁) (tA (.array .int)) (tA .int) n k (defaultValue .int) (a := a) ha n
  have fi := fun (j : Nat) (hj : j < n) => Multi.fill_inner (T.setVm vm₁) (tA (.array .int)) (tA .int) n k (defaultValue .int) n j hj
  generalize Multi.fill (T.setVm vm₁) (tA (.array .int)) (tA .int) n k (defaultValue .int) n = T1 at f1 f2 f3 f4 fo fi X1 go
  have f1' : T1.heap.size = T.heap.size + 1 + n := f1
  have f2' : T1.heap[T.heap.size]? = some (Multi.outerC (tA (.array .int)) n T.heap.size n) := f2
  have fi' : ∀ j, j < n → T1.heap[T.heap.size + 1 + j]? = some (Multi.innerC (tA .int) k (.int 0)) := fi
  have fo' : ∀ a : Nat, a < T.heap.size → T1.heap[a]? = T.heap[a]? := fo
  rw [ng_outer] at f2'
  rw [← hT] at hP hS
  have hold : ∀ (i : Nat) (z : Nat × va_E), (pre ++ (a, .inr (ci, fs)) :: post)[i]? = some z → z.1 < T.heap.size := fun i z hz => (hP i z hz).lt
  have hP0 := hP.kept (H1 := T1.heap) (fun i z hz => fo' z.1 (hold i z hz))
  have hgr : ∀ (i : Nat) (z : Nat × va_E), (ng_grid tA T.heap.size n k)[i]? = some z → i < n + 1 ∧ z.1 = T.heap.size + i ∧ va_at D vwCl z T1.heap := by
    intro i z hz
    cases i with
    | zero =>
      cases hz
      exact ⟨by omega, rfl, f2'⟩
    | succ i =>
      have hz2 : ((List.range n).map (fun i => ((T.heap.size + 1 + i, .inl (tA .int, k, .inl (fun _ => 0))) : Nat × va_E)))[i]? = some z := hz
      rw [List.getElem?_map] at hz2
      have hi : i < n := by
        rcases Nat.lt_or_ge i n with q | q
        · exact q
        · rw [List.getElem?_eq_none (by simpa using q)] at hz2; cases hz2
      rw [List.getElem?_range hi] at hz2
      cases hz2
      refine ⟨by omega, by show _ + 1 + i = _; omega, ?_⟩
      show T1.heap[T.heap.size + 1 + i]? = some (vp_cell (tA .int) (k, .inl (fun _ => 0)))
      rw [fi' i hi, ng_inner]
  have hP1 : va_P D vwCl ((pre ++ (a, .inr (ci, fs)) :: post) ++ ng_grid tA T.heap.size n k) T1.heap := hP0.app (fun i z hz => (hgr i z hz).2.2)
  have hD1 : va_D A ((pre ++ (a, .inr (ci, fs)) :: post) ++ ng_grid tA T.heap.size n k) := by
    refine hD.app ⟨fun i j z1 z2 h1 h2 e1 => ?_, fun i z hz => ?_⟩ (fun i j z1 z2 h1 h2 e1 => ?_)
    · have := (hgr i z1 h1).2.1
      have := (hgr j z2 h2).2.1
      omega
    · have := (hgr i z hz).2.1
      exact C.2.2.2.2.2.2.2.2.1 _ (Nat.le_trans hS.1 (by omega))
    · have := hold i z1 h1
      have := (hgr j z2 h2).2.1
      omega
  rw [List.append_assoc, List.cons_append] at hP1 hD1
  have hS1 : va_S A s.heap T1.heap locs := ⟨Nat.le_trans hS.1 (by omega), fun q h1 h2 => by rw [fo' q (Nat.lt_of_lt_of_le h1 hS.1)]; exact hS.2.1 q h1 h2, hS.2.2⟩
  obtain ⟨t2, a1, b1⟩ := kk T.heap.size p l e s m args below meth c T1.heap locs lsA Qc free C hin hX hP1 hD1 hS1 hl hq hf T1 rfl X1
  exact ⟨t2, go t2 a1, b1⟩
