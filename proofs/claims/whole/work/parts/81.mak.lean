/-! making: rows for the constructors -/
def zNI : List (String × Nat × MethodName × String) := [(RX8, 15, yX4_init, RX8), (RX8, 22, yX2_init, RX8), (RX8, 32, yX6_init, RX8), (RX8, 43, yX3_init, RX8), (RX8, 50, yX1_init, RX8), (RX8, 57, yX7_init, RX8), (RX8, 64, yX5_init, RX8), (RX8, 71, yX0_init, RX8), (RX0, 17, yX6_init, RX8)]
def zKI (D : va_G) (cy : Nat → ClassId) (U : State) : Prop := zKK D cy U ∧ (∀ q ∈ zNI, va_Nw (.methodLinkNest q.1 q.2.1 q.2.2.1 q.2.2.2) U) ∧ va_AO RX6 U
theorem zKI.warm {D : va_G} {cy : Nat → ClassId} {s U : State} (hW : s.WarmedH U.vm) (h : zKI D cy s) : zKI D cy U := ⟨h.1.warm hW, fun q hq => va_Nw.warmM hW (h.2.1 q hq), va_AO.moved hW.alike h.2.2⟩
theorem zKI.same {D : va_G} {cy : Nat → ClassId} {s U : State} (hv : s.vm = U.vm) (h : zKI D cy s) : zKI D cy U := ⟨h.1.same hv, fun q hq => va_Nw.same rfl hv (h.2.1 q hq), va_AO.moved (hv ▸ Vm.Alike.refl s.vm) h.2.2⟩
def zri (f mc ms : Nat) : Room := { frames := f, cells := mc, slots := ms, locals := 100 * f }
/-- the context of a constructor's frame -/
def zCi (Y : MI) (p : Program) (s : State) (m : MethodId) (args : Array Value) (meth : Method) (c : Code) (D : va_G) (cy : Nat → ClassId) : Prop :=
  p.tables.exec = Jvm.exec ∧ c.code = Y.2.1 ∧ c.maxLocals = Y.2.2.1 ∧ meth.sig.returnType = Y.2.2.2 ∧ s.vm.findClass Y.1.cls = some m.cls ∧ (∀ w ∈ zws Y, w.before args s = true) ∧ meth.locks = false ∧ zKI D cy s ∧ meth.name = "<init>"
def zSt (A : Nat → Prop) (s : State) (D : va_G) (ws : va_W) (H : Heap) (locs : List Loc) : Prop := va_P D vwCl ws H ∧ va_D A ws ∧ va_S A s.heap H locs
/-- a group of cells stands where one stood -/
theorem zjoin {A0 : Nat → Prop} {D : va_G} {cl : List vw_C} {ws G : va_W} {q : Nat} {x : va_E} {H H1 : Heap} (hP : va_P D cl (ws ++ [(q, x)]) H) (hD : va_D A0 (ws ++ [(q, x)])) (hk : ∀ a : Nat, a < H.size → ¬ va_A [(q, x)] H.size a → H1[a]? = H[a]?) (hF : ∀ a, va_A [(q, x)] H.size a → A0 a) (hP1 : va_P D cl G H1) (hD1 : va_D (va_A [(q, x)] H.size) G) : va_P D cl (ws ++ G) H1 ∧ va_D A0 (ws ++ G) := by
  have hl : ∀ (k : Nat) (y : Nat × va_E), ws[k]? = some y → (ws ++ [(q, x)])[k]? = some y := fun k y h => by
    have hk : k < ws.length := (List.getElem?_eq_some_iff.mp h).1
    rw [List.getElem?_append_left hk, h]
  have hq : (ws ++ [(q, x)])[ws.length]? = some (q, x) := by
    rw [List.getElem?_append_right (Nat.le_refl _), Nat.sub_self]
    rfl
  have ne : ∀ (k : Nat) (y : Nat × va_E), ws[k]? = some y → ¬ va_A [(q, x)] H.size y.1 := fun k y h hv => by
    have hk : k < ws.length := (List.getElem?_eq_some_iff.mp h).1
    rcases hv with ⟨j, x', hj⟩ | hv
    · have hj0 : j < 1 := (List.getElem?_eq_some_iff.mp hj).1
      rw [show j = 0 by omega] at hj
      have e : (q, x) = (y.1, x') := Option.some.inj hj
      have e1 : q = y.1 := congrArg Prod.fst e
      have := hD.1 k ws.length y (q, x) (hl k y h) hq e1.symm
      omega
    · have := (hP k y (hl k y h)).lt
      omega
  refine ⟨va_P.app (fun k y h => ((hP k y (hl k y h)).kept (hk y.1 ((hP k y (hl k y h)).lt) (ne k y h)))) hP1, fun i j a b hi hj hab => ?_, fun k y hy => ?_⟩
  · by_cases h1 : i < ws.length <;> by_cases h2 : j < ws.length
    · rw [List.getElem?_append_left h1] at hi
      rw [List.getElem?_append_left h2] at hj
      exact hD.1 i j a b (hl i a hi) (hl j b hj) hab
    · rw [List.getElem?_append_left h1] at hi
      rw [List.getElem?_append_right (by omega)] at hj
      have := hD1.2 _ b hj
      rw [← hab] at this
      exact absurd this (ne i a hi)
    · rw [List.getElem?_append_left h2] at hj
      rw [List.getElem?_append_right (by omega)] at hi
      have := hD1.2 _ a hi
      rw [hab] at this
      exact absurd this (ne j b hj)
    · rw [List.getElem?_append_right (by omega)] at hi hj
      have := hD1.1 _ _ a b hi hj hab
      omega
  · by_cases h1 : k < ws.length
    · rw [List.getElem?_append_left h1] at hy
      exact hD.2 k y (hl k y hy)
    · rw [List.getElem?_append_right (by omega)] at hy
      exact hF _ (hD1.2 _ y hy)
/-- what a constructor does: out of a bare object a group of cells -/
def zMk (Yc : MI) (ci : Nat) (dfl : List Value) (f mc ms n : Nat) (G : (Nat → ClassId) → Nat → List Nat → va_W) : Prop :=
  ∀ (l : Launch) (D : va_G) (cy : Nat → ClassId) (q sz : Nat), Met l Yc.1 (zws Yc) (zri f mc ms) (va_Pc [.ref q] (fun U => U.heap.size = sz ∧ va_P D vwCl [(q, .inr (ci, dfl))] U.heap ∧ zKI D cy U))
    (va_Qv (fun qs : List Nat => qs.length = n) (fun qs t => va_P D vwCl (G cy q qs) t.heap ∧ va_D (va_A [(q, .inr (ci, dfl))] sz) (G cy q qs)) (va_A [(q, .inr (ci, dfl))] sz)) mc ms (va_A [(q, .inr (ci, dfl))] sz)
section S81
variable {p : Program} {l : Launch} {e : Env} {R : Room} {s : State} {m : MethodId} {args : Array Value} {below : List Frame} {meth : Method} {c : Code} {D : va_G} {cy : Nat → ClassId} {Y : MI} {A : Nat → Prop} {ws : va_W} {H : Heap} {locs : List Loc} {cells slots pc : Nat} {ls : Array Slot} {rest : List Value} {Q : State → Prop}
theorem zCi.w (C : zCi Y p s m args meth c D cy) {w : Cond} (h : w ∈ zTB) : w.before args s = true := C.2.2.2.2.2.1 w (List.mem_cons_of_mem _ h)
theorem zn_newa (C : zCi Y p s m args meth c D cy) (hSt : zSt A s D ws H locs) (hA : ∀ q, s.heap.size ≤ q → A q) {atype : ArrayType} {ty : FieldType} (hty : newarray.typeOf atype = ty) (harr : Cond.arrayClass ty ∈ zTB) {t0 : Nat} (ht0 : ([(cy 0, FieldType.byte), (cy 1, .int), (cy 2, .long), (cy 3, .object "LastThree$Standing")] : List (ClassId × FieldType))[t0]? = some (cy t0, ty)) (hpr : ∀ (U : State) (cA : ClassId), va_RA U cA ty = (U.vm.findClass ("[" ++ ty.toString) = some cA))
    {n : Int32} {N' : Nat} {a0 : vp_A} (ha : ∀ cA : ClassId, vp_cell cA a0 = arrV cA N' (fun _ => defaultValue ty)) (hn : ¬ n < 0) (hN : n.toNatClampNeg = N') (hbytes : N' * componentBytes ty ≤ 536870912) (hcells : cells + 1 ≤ R.cells) (hslots : slots + N' ≤ R.slots) (hdg : decode Y.2.1 pc = .ok (.newarray atype, 2))
    (kk : ∀ (q : Nat) (H1 : Heap), zSt A s D (ws ++ [(q, .inl (cy t0, a0))]) H1 locs → W p l e R s m args below meth c H1 locs (cells + 1) (slots + N') Q (F0 m (pc + 2) ls (.ref q :: rest))) : W p l e R s m args below meth c H locs cells slots Q (F0 m pc ls (.int n :: rest)) := by
  have hK := C.2.2.2.2.2.2.2.1.1.1
  refine va_newa C.1 C.2.1 (by rw [hty]; exact C.w harr) hty hK hSt.1 hSt.2.1 hSt.2.2 hA ha hn hN hbytes hcells hslots hdg (fun q cA H1 hK1 hP1 hD1 hS1 => ?_)
  have r1 := (hK.2 t0 _ ht0).2
  have r2 := (hK1.2 4 (cA, ty) (by rw [List.getElem?_append_right (Nat.le_refl 4)]; rfl)).2
  rw [hpr] at r1 r2
  have e : cA = cy t0 := Option.some.inj (r2.symm.trans r1)
  subst e
  exact kk q H1 ⟨hP1, hD1, hS1⟩
theorem zn_putF (C : zCi Y p s m args meth c D cy) {h0 ci : Nat} {fs : List Value} {wr : va_W} (hSt : zSt A s D ((h0, .inr (ci, fs)) :: wr) H locs) {Cn : String} {T : u_T} {N k idx : Nat} (ty0 : Nat → FieldType) (hc : vwCl[ci]? = some (Cn, T, N)) (hin : ∀ w ∈ u_ws Cn T N, w ∈ zTB) (hty : ∀ k, k < N → parseFieldDescriptor (T k).2.2.1 = some (ty0 k)) (hnm : ∀ a, a < N → ∀ b, b < N → a ≠ b → (T a).2.1 ≠ (T b).2.1) (hk : k < N) (hlk : Cond.fieldLink Y.1.cls idx (T k).1 (T k).2.1 (T k).2.2.1 ∈ zTB) (hfin : (T k).2.2.2 = true) (hdecl : (T k).1 = Y.1.cls) {ty : FieldType} {v : Value} (hd : parseFieldDescriptor (T k).2.2.1 = some ty) (hn : narrow ty v = v) (hfit : fits ty v = true) (hl : k < fs.length)
    (hdg : decode Y.2.1 pc = .ok (.putfield idx, 3)) (kk : ∀ (H1 : Heap) (locs1 : List Loc), zSt A s D ((h0, .inr (ci, fs.set k v)) :: wr) H1 locs1 → W p l e R s m args below meth c H1 locs1 cells slots Q (F0 m (pc + 3) ls rest)) : W p l e R s m args below meth c H locs cells slots Q (F0 m pc ls (v :: .ref h0 :: rest)) :=
  va_putF C.1 C.2.1 (Ts := zws Y) C.2.2.2.2.2.1 (fun w hw => List.mem_cons_of_mem _ (hin w hw)) ty0 hty hnm C.2.2.2.2.1 C.2.2.2.2.2.2.2.1.1.1 hSt.1 hSt.2.1 hSt.2.2 0 rfl hc k hk (C.w hlk) (fun _ h9 => h9) hfin C.2.2.2.2.2.2.2.2 hdecl hd hn hfit hl hdg (fun H1 locs1 a b d => kk H1 locs1 ⟨a, b, d⟩)
theorem zn_put (C : zCi Y p s m args meth c D cy) {h0 ci : Nat} {fs : List Value} {wr : va_W} (hSt : zSt A s D ((h0, .inr (ci, fs)) :: wr) H locs) {Cn : String} {T : u_T} {N k idx : Nat} (ty0 : Nat → FieldType) (hc : vwCl[ci]? = some (Cn, T, N)) (hin : ∀ w ∈ u_ws Cn T N, w ∈ zTB) (hty : ∀ k, k < N → parseFieldDescriptor (T k).2.2.1 = some (ty0 k)) (hnm : ∀ a, a < N → ∀ b, b < N → a ≠ b → (T a).2.1 ≠ (T b).2.1) (hk : k < N) (hlk : Cond.fieldLink Y.1.cls idx (T k).1 (T k).2.1 (T k).2.2.1 ∈ zTB) (hfin : (T k).2.2.2 = false) {ty : FieldType} {v : Value} (hd : parseFieldDescriptor (T k).2.2.1 = some ty) (hn : narrow ty v = v) (hfit : fits ty v = true) (hl : k < fs.length)
    (hdg : decode Y.2.1 pc = .ok (.putfield idx, 3)) (kk : ∀ (H1 : Heap) (locs1 : List Loc), zSt A s D ((h0, .inr (ci, fs.set k v)) :: wr) H1 locs1 → W p l e R s m args below meth c H1 locs1 cells slots Q (F0 m (pc + 3) ls rest)) : W p l e R s m args below meth c H locs cells slots Q (F0 m pc ls (v :: .ref h0 :: rest)) :=
  va_put C.1 C.2.1 (Ts := zws Y) C.2.2.2.2.2.1 (fun w hw => List.mem_cons_of_mem _ (hin w hw)) ty0 hty hnm C.2.2.2.2.1 C.2.2.2.2.2.2.2.1.1.1 hSt.1 hSt.2.1 hSt.2.2 0 rfl hc k hk (C.w hlk) (fun _ h9 => h9) hfin hd hn hfit hl hdg (fun H1 locs1 a b d => kk H1 locs1 ⟨a, b, d⟩)
/-- new, dup, invokespecial of a nest mate's constructor -/
theorem zn_mk (C : zCi Y p s m args meth c D cy) (hSt : zSt A s D ws H locs) (hA : ∀ q, s.heap.size ≤ q → A q) (hls : ls.size = Y.2.2.1) {Yc : MI} {ci N idx idx2 f mc ms n : Nat} {dfl : List Value} {G : (Nat → ClassId) → Nat → List Nat → va_W} (hM : zMk Yc ci dfl f mc ms n G) {T : u_T} (ty0 : Nat → FieldType) (hc : vwCl[ci]? = some (Yc.1.cls, T, N)) (hin : ∀ w ∈ u_ws Yc.1.cls T N, w ∈ zTB) (hty : ∀ k, k < N → parseFieldDescriptor (T k).2.2.1 = some (ty0 k)) (hfs : ∀ j, j < N → defaultValue (ty0 j) = vp_V dfl j)
    (hcl : Cond.classLink Y.1.cls idx Yc.1.cls ∈ zTB) (hinst : Cond.instantiable Yc.1.cls N ∈ zTB) (hini : Cond.initialized Yc.1.cls ∈ zTB) (hnw : (Y.1.cls, idx2, Yc.1, RX8) ∈ zNI) (hcode : Cond.code Yc.1 Yc.2.1 Yc.2.2.1 Yc.2.2.2 ∈ zTB) (hret : Yc.2.2.2 = none) (hnm : Yc.1.name = "<init>") (him : Cond.instanceMethod Yc.1 ∈ zTB) (hmh : Yc.1.cls ≠ "java/lang/invoke/MethodHandle" ∧ Yc.1.cls ≠ "java/lang/invoke/VarHandle" ∧ (parseMethodDescriptor Yc.1.desc).map (fun d => d.parameters.length) = some 0)
    (hroom : f + 1 ≤ R.frames ∧ 8 + (Yc.2.2.1 + 11) + 100 * f ≤ R.locals) (hrest : (rest.map fun v => v.category).sum ≤ 6) (hcells : cells + 1 + mc ≤ R.cells) (hslots : slots + N + ms ≤ R.slots)
    (hd1 : decode Y.2.1 pc = .ok (.new idx, 3)) (hd2 : decode Y.2.1 (pc + 3) = .ok (.dup, 1)) (hd3 : decode Y.2.1 (pc + 3 + 1) = .ok (.invokespecial idx2, 3))
    (kk : ∀ (q : Nat) (qs : List Nat) (H1 : Heap) (locs1 : List Loc), qs.length = n → zSt A s D (ws ++ G cy q qs) H1 locs1 → W p l e R s m args below meth c H1 locs1 (cells + 1 + mc) (slots + N + ms) Q (F0 m (pc + 3 + 1 + 3) ls (.ref q :: rest))) : W p l e R s m args below meth c H locs cells slots Q (F0 m pc ls rest) := by
  have hK := C.2.2.2.2.2.2.2.1.1.1
  refine va_new (ci := ci) (fs := dfl) (C := Yc.1.cls) (T := T) (N := N) C.1 C.2.1 (Ts := zws Y) C.2.2.2.2.2.1 (fun w hw => List.mem_cons_of_mem _ (hin w hw)) ty0 hty C.2.2.2.2.1 (C.w hcl) (C.w hinst) (C.w hini) hK hSt.1 hSt.2.1 hSt.2.2 hA hc hfs (by omega) (by omega) hd1 (fun q H1 hP hD hS => ?_)
  refine lv_dup C.1 C.2.1 hd2 rfl ?_
  have hFc : ∀ a, va_A [(q, (Sum.inr (ci, dfl) : va_E))] H1.size a → A a := va_free hD hS hA [ws.length] (by simp)
  have hPc : va_P D vwCl [(q, .inr (ci, dfl))] H1 := fun k x hx => by
    have hz : k < 1 := (List.getElem?_eq_some_iff.mp hx).1
    rw [show k = 0 by omega] at hx
    cases hx
    exact hP ws.length (q, .inr (ci, dfl)) (by simp)
  have hMm := hM l D cy q H1.size
  have hrun := va_runIN (p := p) (e := e) (R := R) (s := s) (m := m) (args := args) (below := below) (meth := meth) (c := c) (H := H1) (locs := locs) (cells := cells + 1) (slots := slots + N) (As := []) (rest := .ref q :: rest) (b := q) (g := F0 m (pc + 3 + 1) ls (.ref q :: .ref q :: rest)) (host := RX8) (bytes := Yc.2.1) (maxL := Yc.2.2.1) (n := 0) (index := idx2) ⟨C.1, C.2.1, C.2.2.1, C.2.2.2.2.1, C.2.2.2.2.2.1⟩ hMm ⟨va_cnB 0 C.2.2.2.2.2.1 (zgin hcode) (by unfold zws; rw [hret]) rfl rfl (C.2.2.2.2.2.2.2.1.2.1 _ hnw) (C.w hini) hmh ⟨hroom.1, hroom.2⟩, hnm, C.w him⟩ ⟨fun _ U g mk q => ⟨q.1, q.2.1, q.2.2.1, zKI.same (s := U) rfl q.2.2.2⟩, fun U hU hW => ⟨rfl, by rw [hU], by rw [hU]; exact hPc, C.2.2.2.2.2.2.2.1.warm hW⟩⟩ rfl rfl hls rfl (lv_room (by simp only [List.map_cons, List.sum_cons]; exact Nat.le_trans (Nat.add_le_add_left hrest 1) (by decide))) hd3 ⟨by omega, by omega⟩
  refine va_callv hrun hS (fun a _ h => hFc a h) hFc (fun qs t H2 locs2 ht hvm hlen hB hz1 hk1 hS2 => ?_)
  obtain ⟨hP2, hD2⟩ := hB
  rw [ht] at hP2
  obtain ⟨hP3, hD3⟩ := zjoin hP hD hk1 hFc hP2 hD2
  exact kk q qs H2 locs2 hlen ⟨hP3, hD3, hS2⟩
end S81
