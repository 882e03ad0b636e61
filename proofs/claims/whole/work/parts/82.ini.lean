/-! the constructors of the nested classes (made by mkinit.py) -/
theorem zw_oi : Cond.instanceMethod Lib.objectInit ∈ zTB := (zm1 20 (by decide +kernel) rfl)
theorem zw_oc : Cond.code Lib.objectInit ⟨#[0xb1]⟩ 1 none ∈ zTB := (zm1 21 (by decide +kernel) rfl)
theorem zw_ai : Cond.arrayClass .int ∈ zTB := (zm1 36 (by decide +kernel) rfl)
theorem zw_al : Cond.arrayClass .long ∈ zTB := (zm1 239 (by decide +kernel) rfl)
theorem zw_ab : Cond.arrayClass .byte ∈ zTB := (zm1 35 (by decide +kernel) rfl)
theorem zD1 {q sz : Nat} {x : va_E} : va_D (va_A [(q, x)] sz) [(q, x)] := by
  refine ⟨fun i j a b hi hj _ => ?_, fun k y hy => Or.inl ⟨k, y.2, hy⟩⟩
  have h1 : i < 1 := (List.getElem?_eq_some_iff.mp hi).1
  have h2 : j < 1 := (List.getElem?_eq_some_iff.mp hj).1
  omega
theorem zl1 {l : List Nat} (h : l.length = 1) : ∃ a0, l = [a0] := by
  match l, h with
  | [a0], _ => exact ⟨a0, rfl⟩
theorem zl3 {l : List Nat} (h : l.length = 3) : ∃ a0 a1 a2, l = [a0, a1, a2] := by
  match l, h with
  | [a0, a1, a2], _ => exact ⟨a0, a1, a2, rfl⟩
theorem zl4 {l : List Nat} (h : l.length = 4) : ∃ a0 a1 a2 a3, l = [a0, a1, a2, a3] := by
  match l, h with
  | [a0, a1, a2, a3], _ => exact ⟨a0, a1, a2, a3, rfl⟩
theorem zl7 {l : List Nat} (h : l.length = 7) : ∃ a0 a1 a2 a3 a4 a5 a6, l = [a0, a1, a2, a3, a4, a5, a6] := by
  match l, h with
  | [a0, a1, a2, a3, a4, a5, a6], _ => exact ⟨a0, a1, a2, a3, a4, a5, a6, rfl⟩
theorem zl8 {l : List Nat} (h : l.length = 8) : ∃ a0 a1 a2 a3 a4 a5 a6 a7, l = [a0, a1, a2, a3, a4, a5, a6, a7] := by
  match l, h with
  | [a0, a1, a2, a3, a4, a5, a6, a7], _ => exact ⟨a0, a1, a2, a3, a4, a5, a6, a7, rfl⟩
theorem mcX4 : Cond.code mX4_init.1 mX4_init.2.1 mX4_init.2.2.1 mX4_init.2.2.2 ∈ zTB := (zm1 26 (by decide +kernel) rfl)
def gX4 (cy : Nat → ClassId) (q : Nat) (qs : List Nat) : va_W := [(q, .inr (4, [.ref (qs.getD 0 0), .int 0])), ((qs.getD 0 0), .inl (cy 1, 4, .inl (fun _ => z32 0)))]
set_option maxHeartbeats 4000000 in
theorem mk_X4 : zMk mX4_init 4 [.null, .int 0] 1 1 4 1 gX4 := by
  intro l D cy q sz
  refine Met.ofW (cc := cX4_init) (maxL := 1) (ret := none) (by decide) rfl ?_
  intro p e s m args below meth c s₁ B hml hv
  obtain ⟨rfl, hsz, hP, hK⟩ := hv
  subst hsz
  have C : zCi mX4_init p s m _ meth c D cy := ⟨B.exec, B.bytes, hml, B.returns, findClass_of_methodNamed B.named, atoms_spec (ws := zws mX4_init) B.pre, B.notSynchronized, hK, (name_of_methodNamed B.named B.method).1⟩
  have hA : ∀ a, s.heap.size ≤ a → va_A [(q, (.inr (4, [.null, .int 0]) : va_E))] s.heap.size a := fun a h => Or.inr h
  have St : zSt (va_A [(q, .inr (4, [.null, .int 0]))] s.heap.size) s D [(q, .inr (4, [.null, .int 0]))] s.heap [] := ⟨hP, zD1, va_S.rf⟩
  have hl := lv_entry ([.ref q]) (n := 1) (Nat.le_of_ble_eq_true rfl)
  rw [lg_entry_eq]
  generalize (lg_sl ([.ref q]) ++ List.replicate (1 - (lg_sl ([.ref q])).length) Slot.unset).toArray = ls at hl ⊢
  have hl : lv_has ls 1 [(0, .ref q)] := hl
  generalize hlo : ([] : List Loc) = locs at St ⊢
  refine lv_aload_n C.1 C.2.1 dX4_init_0 rfl (lv_at hl 0 rfl) ?_
  refine W.objInit C.1 C.2.1 C.2.2.2.2.1 (C.w (zm1 27 (by decide +kernel) rfl)) (C.w zw_oi) (C.w zw_oc) rfl (by rw [C.2.2.1]; exact hl.1) rfl dX4_init_1 (Nat.le_of_ble_eq_true rfl) (Nat.le_of_ble_eq_true rfl) ?_
  refine W.eq (g2 := F0 m 4 ls []) rfl ?_
  refine lv_aload_n C.1 C.2.1 dX4_init_4 rfl (lv_at hl 0 rfl) ?_
  refine lv_iconst (v := 4) C.1 C.2.1 dX4_init_5 (by decide) ?_
  refine zn_newa C St hA (atype := .int) (ty := .int) rfl zw_ai (t0 := 1) rfl (fun _ _ => rfl) (N' := 4) (a0 := (4, .inl (fun _ => z32 0))) (fun _ => rfl) (by decide) (by decide) (by decide) (by first | exact Nat.le_of_ble_eq_true rfl | decide) (by first | exact Nat.le_of_ble_eq_true rfl | decide) dX4_init_6 (fun q1 H St => ?_)
  have St : zSt (va_A [(q, .inr (4, [.null, .int 0]))] s.heap.size) s D [(q, .inr (4, [.null, .int 0])), (q1, .inl (cy 1, 4, .inl (fun _ => z32 0)))] H locs := St
  refine zn_putF C St tyX4 rfl inX4 tyX4_ok nmX4 (k := 0) (by decide) (zm1 28 (by decide +kernel) rfl) rfl rfl (tyX4_ok 0 (by decide)) rfl rfl (Nat.le_of_ble_eq_true rfl) dX4_init_8 (fun H locs St => ?_)
  have St : zSt (va_A [(q, .inr (4, [.null, .int 0]))] s.heap.size) s D [(q, .inr (4, [.ref q1, .int 0])), (q1, .inl (cy 1, 4, .inl (fun _ => z32 0)))] H locs := St
  refine W.widen (k := 1) (n := 4) (by first | exact Nat.le_of_ble_eq_true rfl | decide) (by first | exact Nat.le_of_ble_eq_true rfl | decide) ?_
  exact W.vret C.1 C.2.1 C.2.2.2.1 (fun t ht hW => ⟨⟨[q1], rfl, rfl, by rw [ht]; exact St.1, St.2.1⟩, St.2.2.F ht⟩) St.2.2.2.2 dX4_init_11 C.2.2.2.2.2.2.1
theorem mcX2 : Cond.code mX2_init.1 mX2_init.2.1 mX2_init.2.2.1 mX2_init.2.2.2 ∈ zTB := (zm1 41 (by decide +kernel) rfl)
def gX2 (cy : Nat → ClassId) (q : Nat) (qs : List Nat) : va_W := [(q, .inr (2, [.int 0, .int 0, .int 0, .int 0, .int 0, .ref (qs.getD 0 0), .ref (qs.getD 1 0), .ref (qs.getD 2 0), .ref (qs.getD 3 0), .ref (qs.getD 4 0), .ref (qs.getD 5 0), .ref (qs.getD 6 0), .ref (qs.getD 7 0), .int 0, .int 0])), ((qs.getD 0 0), .inl (cy 1, 6, .inl (fun _ => z32 0))), ((qs.getD 1 0), .inl (cy 1, 10, .inl (fun _ => z32 0))), ((qs.getD 2 0), .inl (cy 1, 42, .inl (fun _ => z32 0))), ((qs.getD 3 0), .inl (cy 1, 6, .inl (fun _ => z32 0))), ((qs.getD 4 0), .inl (cy 1, 6, .inl (fun _ => z32 0))), ((qs.getD 5 0), .inl (cy 1, 6, .inl (fun _ => z32 0))), ((qs.getD 6 0), .inl (cy 1, 6, .inl (fun _ => z32 0))), ((qs.getD 7 0), .inl (cy 1, 6, .inl (fun _ => z32 0)))]
set_option maxHeartbeats 4000000 in
theorem mk_X2 : zMk mX2_init 2 [.int 0, .int 0, .int 0, .int 0, .int 0, .null, .null, .null, .null, .null, .null, .null, .null, .int 0, .int 0] 1 8 88 8 gX2 := by
  intro l D cy q sz
  refine Met.ofW (cc := cX2_init) (maxL := 1) (ret := none) (by decide) rfl ?_
  intro p e s m args below meth c s₁ B hml hv
  obtain ⟨rfl, hsz, hP, hK⟩ := hv
  subst hsz
  have C : zCi mX2_init p s m _ meth c D cy := ⟨B.exec, B.bytes, hml, B.returns, findClass_of_methodNamed B.named, atoms_spec (ws := zws mX2_init) B.pre, B.notSynchronized, hK, (name_of_methodNamed B.named B.method).1⟩
  have hA : ∀ a, s.heap.size ≤ a → va_A [(q, (.inr (2, [.int 0, .int 0, .int 0, .int 0, .int 0, .null, .null, .null, .null, .null, .null, .null, .null, .int 0, .int 0]) : va_E))] s.heap.size a := fun a h => Or.inr h
  have St : zSt (va_A [(q, .inr (2, [.int 0, .int 0, .int 0, .int 0, .int 0, .null, .null, .null, .null, .null, .null, .null, .null, .int 0, .int 0]))] s.heap.size) s D [(q, .inr (2, [.int 0, .int 0, .int 0, .int 0, .int 0, .null, .null, .null, .null, .null, .null, .null, .null, .int 0, .int 0]))] s.heap [] := ⟨hP, zD1, va_S.rf⟩
  have hl := lv_entry ([.ref q]) (n := 1) (Nat.le_of_ble_eq_true rfl)
  rw [lg_entry_eq]
  generalize (lg_sl ([.ref q]) ++ List.replicate (1 - (lg_sl ([.ref q])).length) Slot.unset).toArray = ls at hl ⊢
  have hl : lv_has ls 1 [(0, .ref q)] := hl
  generalize hlo : ([] : List Loc) = locs at St ⊢
  refine lv_aload_n C.1 C.2.1 dX2_init_0 rfl (lv_at hl 0 rfl) ?_
  refine W.objInit C.1 C.2.1 C.2.2.2.2.1 (C.w (zm1 42 (by decide +kernel) rfl)) (C.w zw_oi) (C.w zw_oc) rfl (by rw [C.2.2.1]; exact hl.1) rfl dX2_init_1 (Nat.le_of_ble_eq_true rfl) (Nat.le_of_ble_eq_true rfl) ?_
  refine W.eq (g2 := F0 m 4 ls []) rfl ?_
  refine lv_aload_n C.1 C.2.1 dX2_init_4 rfl (lv_at hl 0 rfl) ?_
  refine lv_bipush (v := 6) C.1 C.2.1 dX2_init_5 (by decide) ?_
  refine zn_newa C St hA (atype := .int) (ty := .int) rfl zw_ai (t0 := 1) rfl (fun _ _ => rfl) (N' := 6) (a0 := (6, .inl (fun _ => z32 0))) (fun _ => rfl) (by decide) (by decide) (by decide) (by first | exact Nat.le_of_ble_eq_true rfl | decide) (by first | exact Nat.le_of_ble_eq_true rfl | decide) dX2_init_7 (fun q1 H St => ?_)
  have St : zSt (va_A [(q, .inr (2, [.int 0, .int 0, .int 0, .int 0, .int 0, .null, .null, .null, .null, .null, .null, .null, .null, .int 0, .int 0]))] s.heap.size) s D [(q, .inr (2, [.int 0, .int 0, .int 0, .int 0, .int 0, .null, .null, .null, .null, .null, .null, .null, .null, .int 0, .int 0])), (q1, .inl (cy 1, 6, .inl (fun _ => z32 0)))] H locs := St
  refine zn_putF C St tyX2 rfl inX2 tyX2_ok nmX2 (k := 5) (by decide) (zm1 64 (by decide +kernel) rfl) rfl rfl (tyX2_ok 5 (by decide)) rfl rfl (Nat.le_of_ble_eq_true rfl) dX2_init_9 (fun H locs St => ?_)
  have St : zSt (va_A [(q, .inr (2, [.int 0, .int 0, .int 0, .int 0, .int 0, .null, .null, .null, .null, .null, .null, .null, .null, .int 0, .int 0]))] s.heap.size) s D [(q, .inr (2, [.int 0, .int 0, .int 0, .int 0, .int 0, .ref q1, .null, .null, .null, .null, .null, .null, .null, .int 0, .int 0])), (q1, .inl (cy 1, 6, .inl (fun _ => z32 0)))] H locs := St
  refine lv_aload_n C.1 C.2.1 dX2_init_12 rfl (lv_at hl 0 rfl) ?_
  refine lv_bipush (v := 10) C.1 C.2.1 dX2_init_13 (by decide) ?_
  refine zn_newa C St hA (atype := .int) (ty := .int) rfl zw_ai (t0 := 1) rfl (fun _ _ => rfl) (N' := 10) (a0 := (10, .inl (fun _ => z32 0))) (fun _ => rfl) (by decide) (by decide) (by decide) (by first | exact Nat.le_of_ble_eq_true rfl | decide) (by first | exact Nat.le_of_ble_eq_true rfl | decide) dX2_init_15 (fun q2 H St => ?_)
  have St : zSt (va_A [(q, .inr (2, [.int 0, .int 0, .int 0, .int 0, .int 0, .null, .null, .null, .null, .null, .null, .null, .null, .int 0, .int 0]))] s.heap.size) s D [(q, .inr (2, [.int 0, .int 0, .int 0, .int 0, .int 0, .ref q1, .null, .null, .null, .null, .null, .null, .null, .int 0, .int 0])), (q1, .inl (cy 1, 6, .inl (fun _ => z32 0))), (q2, .inl (cy 1, 10, .inl (fun _ => z32 0)))] H locs := St
  refine zn_putF C St tyX2 rfl inX2 tyX2_ok nmX2 (k := 6) (by decide) (zm1 66 (by decide +kernel) rfl) rfl rfl (tyX2_ok 6 (by decide)) rfl rfl (Nat.le_of_ble_eq_true rfl) dX2_init_17 (fun H locs St => ?_)
  have St : zSt (va_A [(q, .inr (2, [.int 0, .int 0, .int 0, .int 0, .int 0, .null, .null, .null, .null, .null, .null, .null, .null, .int 0, .int 0]))] s.heap.size) s D [(q, .inr (2, [.int 0, .int 0, .int 0, .int 0, .int 0, .ref q1, .ref q2, .null, .null, .null, .null, .null, .null, .int 0, .int 0])), (q1, .inl (cy 1, 6, .inl (fun _ => z32 0))), (q2, .inl (cy 1, 10, .inl (fun _ => z32 0)))] H locs := St
  refine lv_aload_n C.1 C.2.1 dX2_init_20 rfl (lv_at hl 0 rfl) ?_
  refine lv_bipush (v := 42) C.1 C.2.1 dX2_init_21 (by decide) ?_
  refine zn_newa C St hA (atype := .int) (ty := .int) rfl zw_ai (t0 := 1) rfl (fun _ _ => rfl) (N' := 42) (a0 := (42, .inl (fun _ => z32 0))) (fun _ => rfl) (by decide) (by decide) (by decide) (by first | exact Nat.le_of_ble_eq_true rfl | decide) (by first | exact Nat.le_of_ble_eq_true rfl | decide) dX2_init_23 (fun q3 H St => ?_)
  have St : zSt (va_A [(q, .inr (2, [.int 0, .int 0, .int 0, .int 0, .int 0, .null, .null, .null, .null, .null, .null, .null, .null, .int 0, .int 0]))] s.heap.size) s D [(q, .inr (2, [.int 0, .int 0, .int 0, .int 0, .int 0, .ref q1, .ref q2, .null, .null, .null, .null, .null, .null, .int 0, .int 0])), (q1, .inl (cy 1, 6, .inl (fun _ => z32 0))), (q2, .inl (cy 1, 10, .inl (fun _ => z32 0))), (q3, .inl (cy 1, 42, .inl (fun _ => z32 0)))] H locs := St
  refine zn_putF C St tyX2 rfl inX2 tyX2_ok nmX2 (k := 7) (by decide) (zm1 71 (by decide +kernel) rfl) rfl rfl (tyX2_ok 7 (by decide)) rfl rfl (Nat.le_of_ble_eq_true rfl) dX2_init_25 (fun H locs St => ?_)
  have St : zSt (va_A [(q, .inr (2, [.int 0, .int 0, .int 0, .int 0, .int 0, .null, .null, .null, .null, .null, .null, .null, .null, .int 0, .int 0]))] s.heap.size) s D [(q, .inr (2, [.int 0, .int 0, .int 0, .int 0, .int 0, .ref q1, .ref q2, .ref q3, .null, .null, .null, .null, .null, .int 0, .int 0])), (q1, .inl (cy 1, 6, .inl (fun _ => z32 0))), (q2, .inl (cy 1, 10, .inl (fun _ => z32 0))), (q3, .inl (cy 1, 42, .inl (fun _ => z32 0)))] H locs := St
  refine lv_aload_n C.1 C.2.1 dX2_init_28 rfl (lv_at hl 0 rfl) ?_
  refine lv_bipush (v := 6) C.1 C.2.1 dX2_init_29 (by decide) ?_
  refine zn_newa C St hA (atype := .int) (ty := .int) rfl zw_ai (t0 := 1) rfl (fun _ _ => rfl) (N' := 6) (a0 := (6, .inl (fun _ => z32 0))) (fun _ => rfl) (by decide) (by decide) (by decide) (by first | exact Nat.le_of_ble_eq_true rfl | decide) (by first | exact Nat.le_of_ble_eq_true rfl | decide) dX2_init_31 (fun q4 H St => ?_)
  have St : zSt (va_A [(q, .inr (2, [.int 0, .int 0, .int 0, .int 0, .int 0, .null, .null, .null, .null, .null, .null, .null, .null, .int 0, .int 0]))] s.heap.size) s D [(q, .inr (2, [.int 0, .int 0, .int 0, .int 0, .int 0, .ref q1, .ref q2, .ref q3, .null, .null, .null, .null, .null, .int 0, .int 0])), (q1, .inl (cy 1, 6, .inl (fun _ => z32 0))), (q2, .inl (cy 1, 10, .inl (fun _ => z32 0))), (q3, .inl (cy 1, 42, .inl (fun _ => z32 0))), (q4, .inl (cy 1, 6, .inl (fun _ => z32 0)))] H locs := St
  refine zn_putF C St tyX2 rfl inX2 tyX2_ok nmX2 (k := 8) (by decide) (zm1 72 (by decide +kernel) rfl) rfl rfl (tyX2_ok 8 (by decide)) rfl rfl (Nat.le_of_ble_eq_true rfl) dX2_init_33 (fun H locs St => ?_)
  have St : zSt (va_A [(q, .inr (2, [.int 0, .int 0, .int 0, .int 0, .int 0, .null, .null, .null, .null, .null, .null, .null, .null, .int 0, .int 0]))] s.heap.size) s D [(q, .inr (2, [.int 0, .int 0, .int 0, .int 0, .int 0, .ref q1, .ref q2, .ref q3, .ref q4, .null, .null, .null, .null, .int 0, .int 0])), (q1, .inl (cy 1, 6, .inl (fun _ => z32 0))), (q2, .inl (cy 1, 10, .inl (fun _ => z32 0))), (q3, .inl (cy 1, 42, .inl (fun _ => z32 0))), (q4, .inl (cy 1, 6, .inl (fun _ => z32 0)))] H locs := St
  refine lv_aload_n C.1 C.2.1 dX2_init_36 rfl (lv_at hl 0 rfl) ?_
  refine lv_bipush (v := 6) C.1 C.2.1 dX2_init_37 (by decide) ?_
  refine zn_newa C St hA (atype := .int) (ty := .int) rfl zw_ai (t0 := 1) rfl (fun _ _ => rfl) (N' := 6) (a0 := (6, .inl (fun _ => z32 0))) (fun _ => rfl) (by decide) (by decide) (by decide) (by first | exact Nat.le_of_ble_eq_true rfl | decide) (by first | exact Nat.le_of_ble_eq_true rfl | decide) dX2_init_39 (fun q5 H St => ?_)
  have St : zSt (va_A [(q, .inr (2, [.int 0, .int 0, .int 0, .int 0, .int 0, .null, .null, .null, .null, .null, .null, .null, .null, .int 0, .int 0]))] s.heap.size) s D [(q, .inr (2, [.int 0, .int 0, .int 0, .int 0, .int 0, .ref q1, .ref q2, .ref q3, .ref q4, .null, .null, .null, .null, .int 0, .int 0])), (q1, .inl (cy 1, 6, .inl (fun _ => z32 0))), (q2, .inl (cy 1, 10, .inl (fun _ => z32 0))), (q3, .inl (cy 1, 42, .inl (fun _ => z32 0))), (q4, .inl (cy 1, 6, .inl (fun _ => z32 0))), (q5, .inl (cy 1, 6, .inl (fun _ => z32 0)))] H locs := St
  refine zn_putF C St tyX2 rfl inX2 tyX2_ok nmX2 (k := 9) (by decide) (zm1 74 (by decide +kernel) rfl) rfl rfl (tyX2_ok 9 (by decide)) rfl rfl (Nat.le_of_ble_eq_true rfl) dX2_init_41 (fun H locs St => ?_)
  have St : zSt (va_A [(q, .inr (2, [.int 0, .int 0, .int 0, .int 0, .int 0, .null, .null, .null, .null, .null, .null, .null, .null, .int 0, .int 0]))] s.heap.size) s D [(q, .inr (2, [.int 0, .int 0, .int 0, .int 0, .int 0, .ref q1, .ref q2, .ref q3, .ref q4, .ref q5, .null, .null, .null, .int 0, .int 0])), (q1, .inl (cy 1, 6, .inl (fun _ => z32 0))), (q2, .inl (cy 1, 10, .inl (fun _ => z32 0))), (q3, .inl (cy 1, 42, .inl (fun _ => z32 0))), (q4, .inl (cy 1, 6, .inl (fun _ => z32 0))), (q5, .inl (cy 1, 6, .inl (fun _ => z32 0)))] H locs := St
  refine lv_aload_n C.1 C.2.1 dX2_init_44 rfl (lv_at hl 0 rfl) ?_
  refine lv_bipush (v := 6) C.1 C.2.1 dX2_init_45 (by decide) ?_
  refine zn_newa C St hA (atype := .int) (ty := .int) rfl zw_ai (t0 := 1) rfl (fun _ _ => rfl) (N' := 6) (a0 := (6, .inl (fun _ => z32 0))) (fun _ => rfl) (by decide) (by decide) (by decide) (by first | exact Nat.le_of_ble_eq_true rfl | decide) (by first | exact Nat.le_of_ble_eq_true rfl | decide) dX2_init_47 (fun q6 H St => ?_)
  have St : zSt (va_A [(q, .inr (2, [.int 0, .int 0, .int 0, .int 0, .int 0, .null, .null, .null, .null, .null, .null, .null, .null, .int 0, .int 0]))] s.heap.size) s D [(q, .inr (2, [.int 0, .int 0, .int 0, .int 0, .int 0, .ref q1, .ref q2, .ref q3, .ref q4, .ref q5, .null, .null, .null, .int 0, .int 0])), (q1, .inl (cy 1, 6, .inl (fun _ => z32 0))), (q2, .inl (cy 1, 10, .inl (fun _ => z32 0))), (q3, .inl (cy 1, 42, .inl (fun _ => z32 0))), (q4, .inl (cy 1, 6, .inl (fun _ => z32 0))), (q5, .inl (cy 1, 6, .inl (fun _ => z32 0))), (q6, .inl (cy 1, 6, .inl (fun _ => z32 0)))] H locs := St
  refine zn_putF C St tyX2 rfl inX2 tyX2_ok nmX2 (k := 10) (by decide) (zm1 77 (by decide +kernel) rfl) rfl rfl (tyX2_ok 10 (by decide)) rfl rfl (Nat.le_of_ble_eq_true rfl) dX2_init_49 (fun H locs St => ?_)
  have St : zSt (va_A [(q, .inr (2, [.int 0, .int 0, .int 0, .int 0, .int 0, .null, .null, .null, .null, .null, .null, .null, .null, .int 0, .int 0]))] s.heap.size) s D [(q, .inr (2, [.int 0, .int 0, .int 0, .int 0, .int 0, .ref q1, .ref q2, .ref q3, .ref q4, .ref q5, .ref q6, .null, .null, .int 0, .int 0])), (q1, .inl (cy 1, 6, .inl (fun _ => z32 0))), (q2, .inl (cy 1, 10, .inl (fun _ => z32 0))), (q3, .inl (cy 1, 42, .inl (fun _ => z32 0))), (q4, .inl (cy 1, 6, .inl (fun _ => z32 0))), (q5, .inl (cy 1, 6, .inl (fun _ => z32 0))), (q6, .inl (cy 1, 6, .inl (fun _ => z32 0)))] H locs := St
  refine lv_aload_n C.1 C.2.1 dX2_init_52 rfl (lv_at hl 0 rfl) ?_
  refine lv_bipush (v := 6) C.1 C.2.1 dX2_init_53 (by decide) ?_
  refine zn_newa C St hA (atype := .int) (ty := .int) rfl zw_ai (t0 := 1) rfl (fun _ _ => rfl) (N' := 6) (a0 := (6, .inl (fun _ => z32 0))) (fun _ => rfl) (by decide) (by decide) (by decide) (by first | exact Nat.le_of_ble_eq_true rfl | decide) (by first | exact Nat.le_of_ble_eq_true rfl | decide) dX2_init_55 (fun q7 H St => ?_)
  have St : zSt (va_A [(q, .inr (2, [.int 0, .int 0, .int 0, .int 0, .int 0, .null, .null, .null, .null, .null, .null, .null, .null, .int 0, .int 0]))] s.heap.size) s D [(q, .inr (2, [.int 0, .int 0, .int 0, .int 0, .int 0, .ref q1, .ref q2, .ref q3, .ref q4, .ref q5, .ref q6, .null, .null, .int 0, .int 0])), (q1, .inl (cy 1, 6, .inl (fun _ => z32 0))), (q2, .inl (cy 1, 10, .inl (fun _ => z32 0))), (q3, .inl (cy 1, 42, .inl (fun _ => z32 0))), (q4, .inl (cy 1, 6, .inl (fun _ => z32 0))), (q5, .inl (cy 1, 6, .inl (fun _ => z32 0))), (q6, .inl (cy 1, 6, .inl (fun _ => z32 0))), (q7, .inl (cy 1, 6, .inl (fun _ => z32 0)))] H locs := St
  refine zn_putF C St tyX2 rfl inX2 tyX2_ok nmX2 (k := 11) (by decide) (zm1 79 (by decide +kernel) rfl) rfl rfl (tyX2_ok 11 (by decide)) rfl rfl (Nat.le_of_ble_eq_true rfl) dX2_init_57 (fun H locs St => ?_)
  have St : zSt (va_A [(q, .inr (2, [.int 0, .int 0, .int 0, .int 0, .int 0, .null, .null, .null, .null, .null, .null, .null, .null, .int 0, .int 0]))] s.heap.size) s D [(q, .inr (2, [.int 0, .int 0, .int 0, .int 0, .int 0, .ref q1, .ref q2, .ref q3, .ref q4, .ref q5, .ref q6, .ref q7, .null, .int 0, .int 0])), (q1, .inl (cy 1, 6, .inl (fun _ => z32 0))), (q2, .inl (cy 1, 10, .inl (fun _ => z32 0))), (q3, .inl (cy 1, 42, .inl (fun _ => z32 0))), (q4, .inl (cy 1, 6, .inl (fun _ => z32 0))), (q5, .inl (cy 1, 6, .inl (fun _ => z32 0))), (q6, .inl (cy 1, 6, .inl (fun _ => z32 0))), (q7, .inl (cy 1, 6, .inl (fun _ => z32 0)))] H locs := St
  refine lv_aload_n C.1 C.2.1 dX2_init_60 rfl (lv_at hl 0 rfl) ?_
  refine lv_bipush (v := 6) C.1 C.2.1 dX2_init_61 (by decide) ?_
  refine zn_newa C St hA (atype := .int) (ty := .int) rfl zw_ai (t0 := 1) rfl (fun _ _ => rfl) (N' := 6) (a0 := (6, .inl (fun _ => z32 0))) (fun _ => rfl) (by decide) (by decide) (by decide) (by first | exact Nat.le_of_ble_eq_true rfl | decide) (by first | exact Nat.le_of_ble_eq_true rfl | decide) dX2_init_63 (fun q8 H St => ?_)
  have St : zSt (va_A [(q, .inr (2, [.int 0, .int 0, .int 0, .int 0, .int 0, .null, .null, .null, .null, .null, .null, .null, .null, .int 0, .int 0]))] s.heap.size) s D [(q, .inr (2, [.int 0, .int 0, .int 0, .int 0, .int 0, .ref q1, .ref q2, .ref q3, .ref q4, .ref q5, .ref q6, .ref q7, .null, .int 0, .int 0])), (q1, .inl (cy 1, 6, .inl (fun _ => z32 0))), (q2, .inl (cy 1, 10, .inl (fun _ => z32 0))), (q3, .inl (cy 1, 42, .inl (fun _ => z32 0))), (q4, .inl (cy 1, 6, .inl (fun _ => z32 0))), (q5, .inl (cy 1, 6, .inl (fun _ => z32 0))), (q6, .inl (cy 1, 6, .inl (fun _ => z32 0))), (q7, .inl (cy 1, 6, .inl (fun _ => z32 0))), (q8, .inl (cy 1, 6, .inl (fun _ => z32 0)))] H locs := St
  refine zn_putF C St tyX2 rfl inX2 tyX2_ok nmX2 (k := 12) (by decide) (zm1 81 (by decide +kernel) rfl) rfl rfl (tyX2_ok 12 (by decide)) rfl rfl (Nat.le_of_ble_eq_true rfl) dX2_init_65 (fun H locs St => ?_)
  have St : zSt (va_A [(q, .inr (2, [.int 0, .int 0, .int 0, .int 0, .int 0, .null, .null, .null, .null, .null, .null, .null, .null, .int 0, .int 0]))] s.heap.size) s D [(q, .inr (2, [.int 0, .int 0, .int 0, .int 0, .int 0, .ref q1, .ref q2, .ref q3, .ref q4, .ref q5, .ref q6, .ref q7, .ref q8, .int 0, .int 0])), (q1, .inl (cy 1, 6, .inl (fun _ => z32 0))), (q2, .inl (cy 1, 10, .inl (fun _ => z32 0))), (q3, .inl (cy 1, 42, .inl (fun _ => z32 0))), (q4, .inl (cy 1, 6, .inl (fun _ => z32 0))), (q5, .inl (cy 1, 6, .inl (fun _ => z32 0))), (q6, .inl (cy 1, 6, .inl (fun _ => z32 0))), (q7, .inl (cy 1, 6, .inl (fun _ => z32 0))), (q8, .inl (cy 1, 6, .inl (fun _ => z32 0)))] H locs := St
  refine W.widen (k := 8) (n := 88) (by first | exact Nat.le_of_ble_eq_true rfl | decide) (by first | exact Nat.le_of_ble_eq_true rfl | decide) ?_
  exact W.vret C.1 C.2.1 C.2.2.2.1 (fun t ht hW => ⟨⟨[q1, q2, q3, q4, q5, q6, q7, q8], rfl, rfl, by rw [ht]; exact St.1, St.2.1⟩, St.2.2.F ht⟩) St.2.2.2.2 dX2_init_68 C.2.2.2.2.2.2.1
theorem mcX6 : Cond.code mX6_init.1 mX6_init.2.1 mX6_init.2.2.1 mX6_init.2.2.2 ∈ zTB := (zm1 120 (by decide +kernel) rfl)
def gX6 (cy : Nat → ClassId) (q : Nat) (qs : List Nat) : va_W := [(q, .inr (6, [.ref (qs.getD 0 0), .ref (qs.getD 1 0), .ref (qs.getD 2 0), .ref (qs.getD 3 0), .int 0])), ((qs.getD 0 0), .inl (cy 1, 6, .inl (fun _ => z32 0))), ((qs.getD 1 0), .inl (cy 1, 6, .inl (fun _ => z32 0))), ((qs.getD 2 0), .inl (cy 1, 6, .inl (fun _ => z32 0))), ((qs.getD 3 0), .inl (cy 1, 10, .inl (fun _ => z32 0)))]
set_option maxHeartbeats 4000000 in
theorem mk_X6 : zMk mX6_init 6 [.null, .null, .null, .null, .int 0] 1 4 28 4 gX6 := by
  intro l D cy q sz
  refine Met.ofW (cc := cX6_init) (maxL := 1) (ret := none) (by decide) rfl ?_
  intro p e s m args below meth c s₁ B hml hv
  obtain ⟨rfl, hsz, hP, hK⟩ := hv
  subst hsz
  have C : zCi mX6_init p s m _ meth c D cy := ⟨B.exec, B.bytes, hml, B.returns, findClass_of_methodNamed B.named, atoms_spec (ws := zws mX6_init) B.pre, B.notSynchronized, hK, (name_of_methodNamed B.named B.method).1⟩
  have hA : ∀ a, s.heap.size ≤ a → va_A [(q, (.inr (6, [.null, .null, .null, .null, .int 0]) : va_E))] s.heap.size a := fun a h => Or.inr h
  have St : zSt (va_A [(q, .inr (6, [.null, .null, .null, .null, .int 0]))] s.heap.size) s D [(q, .inr (6, [.null, .null, .null, .null, .int 0]))] s.heap [] := ⟨hP, zD1, va_S.rf⟩
  have hl := lv_entry ([.ref q]) (n := 1) (Nat.le_of_ble_eq_true rfl)
  rw [lg_entry_eq]
  generalize (lg_sl ([.ref q]) ++ List.replicate (1 - (lg_sl ([.ref q])).length) Slot.unset).toArray = ls at hl ⊢
  have hl : lv_has ls 1 [(0, .ref q)] := hl
  generalize hlo : ([] : List Loc) = locs at St ⊢
  refine lv_aload_n C.1 C.2.1 dX6_init_0 rfl (lv_at hl 0 rfl) ?_
  refine W.objInit C.1 C.2.1 C.2.2.2.2.1 (C.w (zm1 121 (by decide +kernel) rfl)) (C.w zw_oi) (C.w zw_oc) rfl (by rw [C.2.2.1]; exact hl.1) rfl dX6_init_1 (Nat.le_of_ble_eq_true rfl) (Nat.le_of_ble_eq_true rfl) ?_
  refine W.eq (g2 := F0 m 4 ls []) rfl ?_
  refine lv_aload_n C.1 C.2.1 dX6_init_4 rfl (lv_at hl 0 rfl) ?_
  refine lv_bipush (v := 6) C.1 C.2.1 dX6_init_5 (by decide) ?_
  refine zn_newa C St hA (atype := .int) (ty := .int) rfl zw_ai (t0 := 1) rfl (fun _ _ => rfl) (N' := 6) (a0 := (6, .inl (fun _ => z32 0))) (fun _ => rfl) (by decide) (by decide) (by decide) (by first | exact Nat.le_of_ble_eq_true rfl | decide) (by first | exact Nat.le_of_ble_eq_true rfl | decide) dX6_init_7 (fun q1 H St => ?_)
  have St : zSt (va_A [(q, .inr (6, [.null, .null, .null, .null, .int 0]))] s.heap.size) s D [(q, .inr (6, [.null, .null, .null, .null, .int 0])), (q1, .inl (cy 1, 6, .inl (fun _ => z32 0)))] H locs := St
  refine zn_putF C St tyX6 rfl inX6 tyX6_ok nmX6 (k := 0) (by decide) (zm1 122 (by decide +kernel) rfl) rfl rfl (tyX6_ok 0 (by decide)) rfl rfl (Nat.le_of_ble_eq_true rfl) dX6_init_9 (fun H locs St => ?_)
  have St : zSt (va_A [(q, .inr (6, [.null, .null, .null, .null, .int 0]))] s.heap.size) s D [(q, .inr (6, [.ref q1, .null, .null, .null, .int 0])), (q1, .inl (cy 1, 6, .inl (fun _ => z32 0)))] H locs := St
  refine lv_aload_n C.1 C.2.1 dX6_init_12 rfl (lv_at hl 0 rfl) ?_
  refine lv_bipush (v := 6) C.1 C.2.1 dX6_init_13 (by decide) ?_
  refine zn_newa C St hA (atype := .int) (ty := .int) rfl zw_ai (t0 := 1) rfl (fun _ _ => rfl) (N' := 6) (a0 := (6, .inl (fun _ => z32 0))) (fun _ => rfl) (by decide) (by decide) (by decide) (by first | exact Nat.le_of_ble_eq_true rfl | decide) (by first | exact Nat.le_of_ble_eq_true rfl | decide) dX6_init_15 (fun q2 H St => ?_)
  have St : zSt (va_A [(q, .inr (6, [.null, .null, .null, .null, .int 0]))] s.heap.size) s D [(q, .inr (6, [.ref q1, .null, .null, .null, .int 0])), (q1, .inl (cy 1, 6, .inl (fun _ => z32 0))), (q2, .inl (cy 1, 6, .inl (fun _ => z32 0)))] H locs := St
  refine zn_putF C St tyX6 rfl inX6 tyX6_ok nmX6 (k := 1) (by decide) (zm1 125 (by decide +kernel) rfl) rfl rfl (tyX6_ok 1 (by decide)) rfl rfl (Nat.le_of_ble_eq_true rfl) dX6_init_17 (fun H locs St => ?_)
  have St : zSt (va_A [(q, .inr (6, [.null, .null, .null, .null, .int 0]))] s.heap.size) s D [(q, .inr (6, [.ref q1, .ref q2, .null, .null, .int 0])), (q1, .inl (cy 1, 6, .inl (fun _ => z32 0))), (q2, .inl (cy 1, 6, .inl (fun _ => z32 0)))] H locs := St
  refine lv_aload_n C.1 C.2.1 dX6_init_20 rfl (lv_at hl 0 rfl) ?_
  refine lv_bipush (v := 6) C.1 C.2.1 dX6_init_21 (by decide) ?_
  refine zn_newa C St hA (atype := .int) (ty := .int) rfl zw_ai (t0 := 1) rfl (fun _ _ => rfl) (N' := 6) (a0 := (6, .inl (fun _ => z32 0))) (fun _ => rfl) (by decide) (by decide) (by decide) (by first | exact Nat.le_of_ble_eq_true rfl | decide) (by first | exact Nat.le_of_ble_eq_true rfl | decide) dX6_init_23 (fun q3 H St => ?_)
  have St : zSt (va_A [(q, .inr (6, [.null, .null, .null, .null, .int 0]))] s.heap.size) s D [(q, .inr (6, [.ref q1, .ref q2, .null, .null, .int 0])), (q1, .inl (cy 1, 6, .inl (fun _ => z32 0))), (q2, .inl (cy 1, 6, .inl (fun _ => z32 0))), (q3, .inl (cy 1, 6, .inl (fun _ => z32 0)))] H locs := St
  refine zn_putF C St tyX6 rfl inX6 tyX6_ok nmX6 (k := 2) (by decide) (zm1 128 (by decide +kernel) rfl) rfl rfl (tyX6_ok 2 (by decide)) rfl rfl (Nat.le_of_ble_eq_true rfl) dX6_init_25 (fun H locs St => ?_)
  have St : zSt (va_A [(q, .inr (6, [.null, .null, .null, .null, .int 0]))] s.heap.size) s D [(q, .inr (6, [.ref q1, .ref q2, .ref q3, .null, .int 0])), (q1, .inl (cy 1, 6, .inl (fun _ => z32 0))), (q2, .inl (cy 1, 6, .inl (fun _ => z32 0))), (q3, .inl (cy 1, 6, .inl (fun _ => z32 0)))] H locs := St
  refine lv_aload_n C.1 C.2.1 dX6_init_28 rfl (lv_at hl 0 rfl) ?_
  refine lv_bipush (v := 10) C.1 C.2.1 dX6_init_29 (by decide) ?_
  refine zn_newa C St hA (atype := .int) (ty := .int) rfl zw_ai (t0 := 1) rfl (fun _ _ => rfl) (N' := 10) (a0 := (10, .inl (fun _ => z32 0))) (fun _ => rfl) (by decide) (by decide) (by decide) (by first | exact Nat.le_of_ble_eq_true rfl | decide) (by first | exact Nat.le_of_ble_eq_true rfl | decide) dX6_init_31 (fun q4 H St => ?_)
  have St : zSt (va_A [(q, .inr (6, [.null, .null, .null, .null, .int 0]))] s.heap.size) s D [(q, .inr (6, [.ref q1, .ref q2, .ref q3, .null, .int 0])), (q1, .inl (cy 1, 6, .inl (fun _ => z32 0))), (q2, .inl (cy 1, 6, .inl (fun _ => z32 0))), (q3, .inl (cy 1, 6, .inl (fun _ => z32 0))), (q4, .inl (cy 1, 10, .inl (fun _ => z32 0)))] H locs := St
  refine zn_putF C St tyX6 rfl inX6 tyX6_ok nmX6 (k := 3) (by decide) (zm1 131 (by decide +kernel) rfl) rfl rfl (tyX6_ok 3 (by decide)) rfl rfl (Nat.le_of_ble_eq_true rfl) dX6_init_33 (fun H locs St => ?_)
  have St : zSt (va_A [(q, .inr (6, [.null, .null, .null, .null, .int 0]))] s.heap.size) s D [(q, .inr (6, [.ref q1, .ref q2, .ref q3, .ref q4, .int 0])), (q1, .inl (cy 1, 6, .inl (fun _ => z32 0))), (q2, .inl (cy 1, 6, .inl (fun _ => z32 0))), (q3, .inl (cy 1, 6, .inl (fun _ => z32 0))), (q4, .inl (cy 1, 10, .inl (fun _ => z32 0)))] H locs := St
  refine W.widen (k := 4) (n := 28) (by first | exact Nat.le_of_ble_eq_true rfl | decide) (by first | exact Nat.le_of_ble_eq_true rfl | decide) ?_
  exact W.vret C.1 C.2.1 C.2.2.2.1 (fun t ht hW => ⟨⟨[q1, q2, q3, q4], rfl, rfl, by rw [ht]; exact St.1, St.2.1⟩, St.2.2.F ht⟩) St.2.2.2.2 dX6_init_36 C.2.2.2.2.2.2.1
theorem mcX3 : Cond.code mX3_init.1 mX3_init.2.1 mX3_init.2.2.1 mX3_init.2.2.2 ∈ zTB := (zm1 153 (by decide +kernel) rfl)
def gX3 (cy : Nat → ClassId) (q : Nat) (qs : List Nat) : va_W := [(q, .inr (3, [.ref (qs.getD 0 0), .ref (qs.getD 1 0), .ref (qs.getD 2 0)])), ((qs.getD 0 0), .inl (cy 1, 10, .inl (fun _ => z32 0))), ((qs.getD 1 0), .inl (cy 1, 10, .inl (fun _ => z32 0))), ((qs.getD 2 0), .inl (cy 1, 16, .inl (fun _ => z32 0)))]
set_option maxHeartbeats 4000000 in
theorem mk_X3 : zMk mX3_init 3 [.null, .null, .null] 1 3 36 3 gX3 := by
  intro l D cy q sz
  refine Met.ofW (cc := cX3_init) (maxL := 1) (ret := none) (by decide) rfl ?_
  intro p e s m args below meth c s₁ B hml hv
  obtain ⟨rfl, hsz, hP, hK⟩ := hv
  subst hsz
  have C : zCi mX3_init p s m _ meth c D cy := ⟨B.exec, B.bytes, hml, B.returns, findClass_of_methodNamed B.named, atoms_spec (ws := zws mX3_init) B.pre, B.notSynchronized, hK, (name_of_methodNamed B.named B.method).1⟩
  have hA : ∀ a, s.heap.size ≤ a → va_A [(q, (.inr (3, [.null, .null, .null]) : va_E))] s.heap.size a := fun a h => Or.inr h
  have St : zSt (va_A [(q, .inr (3, [.null, .null, .null]))] s.heap.size) s D [(q, .inr (3, [.null, .null, .null]))] s.heap [] := ⟨hP, zD1, va_S.rf⟩
  have hl := lv_entry ([.ref q]) (n := 1) (Nat.le_of_ble_eq_true rfl)
  rw [lg_entry_eq]
  generalize (lg_sl ([.ref q]) ++ List.replicate (1 - (lg_sl ([.ref q])).length) Slot.unset).toArray = ls at hl ⊢
  have hl : lv_has ls 1 [(0, .ref q)] := hl
  generalize hlo : ([] : List Loc) = locs at St ⊢
  refine lv_aload_n C.1 C.2.1 dX3_init_0 rfl (lv_at hl 0 rfl) ?_
  refine W.objInit C.1 C.2.1 C.2.2.2.2.1 (C.w (zm1 154 (by decide +kernel) rfl)) (C.w zw_oi) (C.w zw_oc) rfl (by rw [C.2.2.1]; exact hl.1) rfl dX3_init_1 (Nat.le_of_ble_eq_true rfl) (Nat.le_of_ble_eq_true rfl) ?_
  refine W.eq (g2 := F0 m 4 ls []) rfl ?_
  refine lv_aload_n C.1 C.2.1 dX3_init_4 rfl (lv_at hl 0 rfl) ?_
  refine lv_bipush (v := 10) C.1 C.2.1 dX3_init_5 (by decide) ?_
  refine zn_newa C St hA (atype := .int) (ty := .int) rfl zw_ai (t0 := 1) rfl (fun _ _ => rfl) (N' := 10) (a0 := (10, .inl (fun _ => z32 0))) (fun _ => rfl) (by decide) (by decide) (by decide) (by first | exact Nat.le_of_ble_eq_true rfl | decide) (by first | exact Nat.le_of_ble_eq_true rfl | decide) dX3_init_7 (fun q1 H St => ?_)
  have St : zSt (va_A [(q, .inr (3, [.null, .null, .null]))] s.heap.size) s D [(q, .inr (3, [.null, .null, .null])), (q1, .inl (cy 1, 10, .inl (fun _ => z32 0)))] H locs := St
  refine zn_putF C St tyX3 rfl inX3 tyX3_ok nmX3 (k := 0) (by decide) (zm1 155 (by decide +kernel) rfl) rfl rfl (tyX3_ok 0 (by decide)) rfl rfl (Nat.le_of_ble_eq_true rfl) dX3_init_9 (fun H locs St => ?_)
  have St : zSt (va_A [(q, .inr (3, [.null, .null, .null]))] s.heap.size) s D [(q, .inr (3, [.ref q1, .null, .null])), (q1, .inl (cy 1, 10, .inl (fun _ => z32 0)))] H locs := St
  refine lv_aload_n C.1 C.2.1 dX3_init_12 rfl (lv_at hl 0 rfl) ?_
  refine lv_bipush (v := 10) C.1 C.2.1 dX3_init_13 (by decide) ?_
  refine zn_newa C St hA (atype := .int) (ty := .int) rfl zw_ai (t0 := 1) rfl (fun _ _ => rfl) (N' := 10) (a0 := (10, .inl (fun _ => z32 0))) (fun _ => rfl) (by decide) (by decide) (by decide) (by first | exact Nat.le_of_ble_eq_true rfl | decide) (by first | exact Nat.le_of_ble_eq_true rfl | decide) dX3_init_15 (fun q2 H St => ?_)
  have St : zSt (va_A [(q, .inr (3, [.null, .null, .null]))] s.heap.size) s D [(q, .inr (3, [.ref q1, .null, .null])), (q1, .inl (cy 1, 10, .inl (fun _ => z32 0))), (q2, .inl (cy 1, 10, .inl (fun _ => z32 0)))] H locs := St
  refine zn_putF C St tyX3 rfl inX3 tyX3_ok nmX3 (k := 1) (by decide) (zm1 157 (by decide +kernel) rfl) rfl rfl (tyX3_ok 1 (by decide)) rfl rfl (Nat.le_of_ble_eq_true rfl) dX3_init_17 (fun H locs St => ?_)
  have St : zSt (va_A [(q, .inr (3, [.null, .null, .null]))] s.heap.size) s D [(q, .inr (3, [.ref q1, .ref q2, .null])), (q1, .inl (cy 1, 10, .inl (fun _ => z32 0))), (q2, .inl (cy 1, 10, .inl (fun _ => z32 0)))] H locs := St
  refine lv_aload_n C.1 C.2.1 dX3_init_20 rfl (lv_at hl 0 rfl) ?_
  refine lv_bipush (v := 16) C.1 C.2.1 dX3_init_21 (by decide) ?_
  refine zn_newa C St hA (atype := .int) (ty := .int) rfl zw_ai (t0 := 1) rfl (fun _ _ => rfl) (N' := 16) (a0 := (16, .inl (fun _ => z32 0))) (fun _ => rfl) (by decide) (by decide) (by decide) (by first | exact Nat.le_of_ble_eq_true rfl | decide) (by first | exact Nat.le_of_ble_eq_true rfl | decide) dX3_init_23 (fun q3 H St => ?_)
  have St : zSt (va_A [(q, .inr (3, [.null, .null, .null]))] s.heap.size) s D [(q, .inr (3, [.ref q1, .ref q2, .null])), (q1, .inl (cy 1, 10, .inl (fun _ => z32 0))), (q2, .inl (cy 1, 10, .inl (fun _ => z32 0))), (q3, .inl (cy 1, 16, .inl (fun _ => z32 0)))] H locs := St
  refine zn_putF C St tyX3 rfl inX3 tyX3_ok nmX3 (k := 2) (by decide) (zm1 159 (by decide +kernel) rfl) rfl rfl (tyX3_ok 2 (by decide)) rfl rfl (Nat.le_of_ble_eq_true rfl) dX3_init_25 (fun H locs St => ?_)
  have St : zSt (va_A [(q, .inr (3, [.null, .null, .null]))] s.heap.size) s D [(q, .inr (3, [.ref q1, .ref q2, .ref q3])), (q1, .inl (cy 1, 10, .inl (fun _ => z32 0))), (q2, .inl (cy 1, 10, .inl (fun _ => z32 0))), (q3, .inl (cy 1, 16, .inl (fun _ => z32 0)))] H locs := St
  refine W.widen (k := 3) (n := 36) (by first | exact Nat.le_of_ble_eq_true rfl | decide) (by first | exact Nat.le_of_ble_eq_true rfl | decide) ?_
  exact W.vret C.1 C.2.1 C.2.2.2.1 (fun t ht hW => ⟨⟨[q1, q2, q3], rfl, rfl, by rw [ht]; exact St.1, St.2.1⟩, St.2.2.F ht⟩) St.2.2.2.2 dX3_init_28 C.2.2.2.2.2.2.1
theorem mcX1 : Cond.code mX1_init.1 mX1_init.2.1 mX1_init.2.2.1 mX1_init.2.2.2 ∈ zTB := (zm1 171 (by decide +kernel) rfl)
def gX1 (cy : Nat → ClassId) (q : Nat) (qs : List Nat) : va_W := [(q, .inr (1, [.ref (qs.getD 0 0), .int 0, .int (z32 (-1)), .ref (qs.getD 1 0), .ref (qs.getD 2 0)])), ((qs.getD 0 0), .inl (cy 1, 10, .inl (fun _ => z32 0))), ((qs.getD 1 0), .inl (cy 1, 10, .inl (fun _ => z32 0))), ((qs.getD 2 0), .inl (cy 1, 7168, .inl (fun _ => z32 0)))]
set_option maxHeartbeats 4000000 in
theorem mk_X1 : zMk mX1_init 1 [.null, .int 0, .int 0, .null, .null] 1 3 7188 3 gX1 := by
  intro l D cy q sz
  refine Met.ofW (cc := cX1_init) (maxL := 1) (ret := none) (by decide) rfl ?_
  intro p e s m args below meth c s₁ B hml hv
  obtain ⟨rfl, hsz, hP, hK⟩ := hv
  subst hsz
  have C : zCi mX1_init p s m _ meth c D cy := ⟨B.exec, B.bytes, hml, B.returns, findClass_of_methodNamed B.named, atoms_spec (ws := zws mX1_init) B.pre, B.notSynchronized, hK, (name_of_methodNamed B.named B.method).1⟩
  have hA : ∀ a, s.heap.size ≤ a → va_A [(q, (.inr (1, [.null, .int 0, .int 0, .null, .null]) : va_E))] s.heap.size a := fun a h => Or.inr h
  have St : zSt (va_A [(q, .inr (1, [.null, .int 0, .int 0, .null, .null]))] s.heap.size) s D [(q, .inr (1, [.null, .int 0, .int 0, .null, .null]))] s.heap [] := ⟨hP, zD1, va_S.rf⟩
  have hl := lv_entry ([.ref q]) (n := 1) (Nat.le_of_ble_eq_true rfl)
  rw [lg_entry_eq]
  generalize (lg_sl ([.ref q]) ++ List.replicate (1 - (lg_sl ([.ref q])).length) Slot.unset).toArray = ls at hl ⊢
  have hl : lv_has ls 1 [(0, .ref q)] := hl
  generalize hlo : ([] : List Loc) = locs at St ⊢
  refine lv_aload_n C.1 C.2.1 dX1_init_0 rfl (lv_at hl 0 rfl) ?_
  refine W.objInit C.1 C.2.1 C.2.2.2.2.1 (C.w (zm1 172 (by decide +kernel) rfl)) (C.w zw_oi) (C.w zw_oc) rfl (by rw [C.2.2.1]; exact hl.1) rfl dX1_init_1 (Nat.le_of_ble_eq_true rfl) (Nat.le_of_ble_eq_true rfl) ?_
  refine W.eq (g2 := F0 m 4 ls []) rfl ?_
  refine lv_aload_n C.1 C.2.1 dX1_init_4 rfl (lv_at hl 0 rfl) ?_
  refine lv_bipush (v := 10) C.1 C.2.1 dX1_init_5 (by decide) ?_
  refine zn_newa C St hA (atype := .int) (ty := .int) rfl zw_ai (t0 := 1) rfl (fun _ _ => rfl) (N' := 10) (a0 := (10, .inl (fun _ => z32 0))) (fun _ => rfl) (by decide) (by decide) (by decide) (by first | exact Nat.le_of_ble_eq_true rfl | decide) (by first | exact Nat.le_of_ble_eq_true rfl | decide) dX1_init_7 (fun q1 H St => ?_)
  have St : zSt (va_A [(q, .inr (1, [.null, .int 0, .int 0, .null, .null]))] s.heap.size) s D [(q, .inr (1, [.null, .int 0, .int 0, .null, .null])), (q1, .inl (cy 1, 10, .inl (fun _ => z32 0)))] H locs := St
  refine zn_putF C St tyX1 rfl inX1 tyX1_ok nmX1 (k := 0) (by decide) (zm1 173 (by decide +kernel) rfl) rfl rfl (tyX1_ok 0 (by decide)) rfl rfl (Nat.le_of_ble_eq_true rfl) dX1_init_9 (fun H locs St => ?_)
  have St : zSt (va_A [(q, .inr (1, [.null, .int 0, .int 0, .null, .null]))] s.heap.size) s D [(q, .inr (1, [.ref q1, .int 0, .int 0, .null, .null])), (q1, .inl (cy 1, 10, .inl (fun _ => z32 0)))] H locs := St
  refine lv_aload_n C.1 C.2.1 dX1_init_12 rfl (lv_at hl 0 rfl) ?_
  refine lv_iconst (v := z32 (-1)) C.1 C.2.1 dX1_init_13 rfl ?_
  refine zn_put C St tyX1 rfl inX1 tyX1_ok nmX1 (k := 2) (by decide) (zm1 177 (by decide +kernel) rfl) rfl (tyX1_ok 2 (by decide)) rfl rfl (Nat.le_of_ble_eq_true rfl) dX1_init_14 (fun H locs St => ?_)
  have St : zSt (va_A [(q, .inr (1, [.null, .int 0, .int 0, .null, .null]))] s.heap.size) s D [(q, .inr (1, [.ref q1, .int 0, .int (z32 (-1)), .null, .null])), (q1, .inl (cy 1, 10, .inl (fun _ => z32 0)))] H locs := St
  refine lv_aload_n C.1 C.2.1 dX1_init_17 rfl (lv_at hl 0 rfl) ?_
  refine lv_bipush (v := 10) C.1 C.2.1 dX1_init_18 (by decide) ?_
  refine zn_newa C St hA (atype := .int) (ty := .int) rfl zw_ai (t0 := 1) rfl (fun _ _ => rfl) (N' := 10) (a0 := (10, .inl (fun _ => z32 0))) (fun _ => rfl) (by decide) (by decide) (by decide) (by first | exact Nat.le_of_ble_eq_true rfl | decide) (by first | exact Nat.le_of_ble_eq_true rfl | decide) dX1_init_20 (fun q2 H St => ?_)
  have St : zSt (va_A [(q, .inr (1, [.null, .int 0, .int 0, .null, .null]))] s.heap.size) s D [(q, .inr (1, [.ref q1, .int 0, .int (z32 (-1)), .null, .null])), (q1, .inl (cy 1, 10, .inl (fun _ => z32 0))), (q2, .inl (cy 1, 10, .inl (fun _ => z32 0)))] H locs := St
  refine zn_putF C St tyX1 rfl inX1 tyX1_ok nmX1 (k := 3) (by decide) (zm1 178 (by decide +kernel) rfl) rfl rfl (tyX1_ok 3 (by decide)) rfl rfl (Nat.le_of_ble_eq_true rfl) dX1_init_22 (fun H locs St => ?_)
  have St : zSt (va_A [(q, .inr (1, [.null, .int 0, .int 0, .null, .null]))] s.heap.size) s D [(q, .inr (1, [.ref q1, .int 0, .int (z32 (-1)), .ref q2, .null])), (q1, .inl (cy 1, 10, .inl (fun _ => z32 0))), (q2, .inl (cy 1, 10, .inl (fun _ => z32 0)))] H locs := St
  refine lv_aload_n C.1 C.2.1 dX1_init_25 rfl (lv_at hl 0 rfl) ?_
  refine lv_sipush (v := 7168) C.1 C.2.1 dX1_init_26 (by decide) ?_
  refine zn_newa C St hA (atype := .int) (ty := .int) rfl zw_ai (t0 := 1) rfl (fun _ _ => rfl) (N' := 7168) (a0 := (7168, .inl (fun _ => z32 0))) (fun _ => rfl) (by decide) (by decide) (by decide) (by first | exact Nat.le_of_ble_eq_true rfl | decide) (by first | exact Nat.le_of_ble_eq_true rfl | decide) dX1_init_29 (fun q3 H St => ?_)
  have St : zSt (va_A [(q, .inr (1, [.null, .int 0, .int 0, .null, .null]))] s.heap.size) s D [(q, .inr (1, [.ref q1, .int 0, .int (z32 (-1)), .ref q2, .null])), (q1, .inl (cy 1, 10, .inl (fun _ => z32 0))), (q2, .inl (cy 1, 10, .inl (fun _ => z32 0))), (q3, .inl (cy 1, 7168, .inl (fun _ => z32 0)))] H locs := St
  refine zn_putF C St tyX1 rfl inX1 tyX1_ok nmX1 (k := 4) (by decide) (zm1 179 (by decide +kernel) rfl) rfl rfl (tyX1_ok 4 (by decide)) rfl rfl (Nat.le_of_ble_eq_true rfl) dX1_init_31 (fun H locs St => ?_)
  have St : zSt (va_A [(q, .inr (1, [.null, .int 0, .int 0, .null, .null]))] s.heap.size) s D [(q, .inr (1, [.ref q1, .int 0, .int (z32 (-1)), .ref q2, .ref q3])), (q1, .inl (cy 1, 10, .inl (fun _ => z32 0))), (q2, .inl (cy 1, 10, .inl (fun _ => z32 0))), (q3, .inl (cy 1, 7168, .inl (fun _ => z32 0)))] H locs := St
  refine W.widen (k := 3) (n := 7188) (by first | exact Nat.le_of_ble_eq_true rfl | decide) (by first | exact Nat.le_of_ble_eq_true rfl | decide) ?_
  exact W.vret C.1 C.2.1 C.2.2.2.1 (fun t ht hW => ⟨⟨[q1, q2, q3], rfl, rfl, by rw [ht]; exact St.1, St.2.1⟩, St.2.2.F ht⟩) St.2.2.2.2 dX1_init_34 C.2.2.2.2.2.2.1
theorem mcX7 : Cond.code mX7_init.1 mX7_init.2.1 mX7_init.2.2.1 mX7_init.2.2.2 ∈ zTB := (zm1 195 (by decide +kernel) rfl)
def gX7 (cy : Nat → ClassId) (q : Nat) (qs : List Nat) : va_W := [(q, .inr (7, [.ref (qs.getD 0 0), .ref (qs.getD 1 0), .int 0, .int (z32 (-1)), .ref (qs.getD 2 0), .ref (qs.getD 3 0)])), ((qs.getD 0 0), .inl (cy 1, 12, .inl (fun _ => z32 0))), ((qs.getD 1 0), .inl (cy 1, 12, .inl (fun _ => z32 0))), ((qs.getD 2 0), .inl (cy 1, 539, .inl (fun _ => z32 0))), ((qs.getD 3 0), .inl (cy 1, 7, .inl (fun _ => z32 0)))]
set_option maxHeartbeats 4000000 in
theorem mk_X7 : zMk mX7_init 7 [.null, .null, .int 0, .int 0, .null, .null] 1 4 570 4 gX7 := by
  intro l D cy q sz
  refine Met.ofW (cc := cX7_init) (maxL := 1) (ret := none) (by decide) rfl ?_
  intro p e s m args below meth c s₁ B hml hv
  obtain ⟨rfl, hsz, hP, hK⟩ := hv
  subst hsz
  have C : zCi mX7_init p s m _ meth c D cy := ⟨B.exec, B.bytes, hml, B.returns, findClass_of_methodNamed B.named, atoms_spec (ws := zws mX7_init) B.pre, B.notSynchronized, hK, (name_of_methodNamed B.named B.method).1⟩
  have hA : ∀ a, s.heap.size ≤ a → va_A [(q, (.inr (7, [.null, .null, .int 0, .int 0, .null, .null]) : va_E))] s.heap.size a := fun a h => Or.inr h
  have St : zSt (va_A [(q, .inr (7, [.null, .null, .int 0, .int 0, .null, .null]))] s.heap.size) s D [(q, .inr (7, [.null, .null, .int 0, .int 0, .null, .null]))] s.heap [] := ⟨hP, zD1, va_S.rf⟩
  have hl := lv_entry ([.ref q]) (n := 1) (Nat.le_of_ble_eq_true rfl)
  rw [lg_entry_eq]
  generalize (lg_sl ([.ref q]) ++ List.replicate (1 - (lg_sl ([.ref q])).length) Slot.unset).toArray = ls at hl ⊢
  have hl : lv_has ls 1 [(0, .ref q)] := hl
  generalize hlo : ([] : List Loc) = locs at St ⊢
  refine lv_aload_n C.1 C.2.1 dX7_init_0 rfl (lv_at hl 0 rfl) ?_
  refine W.objInit C.1 C.2.1 C.2.2.2.2.1 (C.w (zm1 196 (by decide +kernel) rfl)) (C.w zw_oi) (C.w zw_oc) rfl (by rw [C.2.2.1]; exact hl.1) rfl dX7_init_1 (Nat.le_of_ble_eq_true rfl) (Nat.le_of_ble_eq_true rfl) ?_
  refine W.eq (g2 := F0 m 4 ls []) rfl ?_
  refine lv_aload_n C.1 C.2.1 dX7_init_4 rfl (lv_at hl 0 rfl) ?_
  refine lv_bipush (v := 12) C.1 C.2.1 dX7_init_5 (by decide) ?_
  refine zn_newa C St hA (atype := .int) (ty := .int) rfl zw_ai (t0 := 1) rfl (fun _ _ => rfl) (N' := 12) (a0 := (12, .inl (fun _ => z32 0))) (fun _ => rfl) (by decide) (by decide) (by decide) (by first | exact Nat.le_of_ble_eq_true rfl | decide) (by first | exact Nat.le_of_ble_eq_true rfl | decide) dX7_init_7 (fun q1 H St => ?_)
  have St : zSt (va_A [(q, .inr (7, [.null, .null, .int 0, .int 0, .null, .null]))] s.heap.size) s D [(q, .inr (7, [.null, .null, .int 0, .int 0, .null, .null])), (q1, .inl (cy 1, 12, .inl (fun _ => z32 0)))] H locs := St
  refine zn_putF C St tyX7 rfl inX7 tyX7_ok nmX7 (k := 0) (by decide) (zm1 197 (by decide +kernel) rfl) rfl rfl (tyX7_ok 0 (by decide)) rfl rfl (Nat.le_of_ble_eq_true rfl) dX7_init_9 (fun H locs St => ?_)
  have St : zSt (va_A [(q, .inr (7, [.null, .null, .int 0, .int 0, .null, .null]))] s.heap.size) s D [(q, .inr (7, [.ref q1, .null, .int 0, .int 0, .null, .null])), (q1, .inl (cy 1, 12, .inl (fun _ => z32 0)))] H locs := St
  refine lv_aload_n C.1 C.2.1 dX7_init_12 rfl (lv_at hl 0 rfl) ?_
  refine lv_bipush (v := 12) C.1 C.2.1 dX7_init_13 (by decide) ?_
  refine zn_newa C St hA (atype := .int) (ty := .int) rfl zw_ai (t0 := 1) rfl (fun _ _ => rfl) (N' := 12) (a0 := (12, .inl (fun _ => z32 0))) (fun _ => rfl) (by decide) (by decide) (by decide) (by first | exact Nat.le_of_ble_eq_true rfl | decide) (by first | exact Nat.le_of_ble_eq_true rfl | decide) dX7_init_15 (fun q2 H St => ?_)
  have St : zSt (va_A [(q, .inr (7, [.null, .null, .int 0, .int 0, .null, .null]))] s.heap.size) s D [(q, .inr (7, [.ref q1, .null, .int 0, .int 0, .null, .null])), (q1, .inl (cy 1, 12, .inl (fun _ => z32 0))), (q2, .inl (cy 1, 12, .inl (fun _ => z32 0)))] H locs := St
  refine zn_putF C St tyX7 rfl inX7 tyX7_ok nmX7 (k := 1) (by decide) (zm1 199 (by decide +kernel) rfl) rfl rfl (tyX7_ok 1 (by decide)) rfl rfl (Nat.le_of_ble_eq_true rfl) dX7_init_17 (fun H locs St => ?_)
  have St : zSt (va_A [(q, .inr (7, [.null, .null, .int 0, .int 0, .null, .null]))] s.heap.size) s D [(q, .inr (7, [.ref q1, .ref q2, .int 0, .int 0, .null, .null])), (q1, .inl (cy 1, 12, .inl (fun _ => z32 0))), (q2, .inl (cy 1, 12, .inl (fun _ => z32 0)))] H locs := St
  refine lv_aload_n C.1 C.2.1 dX7_init_20 rfl (lv_at hl 0 rfl) ?_
  refine lv_iconst (v := z32 (-1)) C.1 C.2.1 dX7_init_21 rfl ?_
  refine zn_put C St tyX7 rfl inX7 tyX7_ok nmX7 (k := 3) (by decide) (zm1 203 (by decide +kernel) rfl) rfl (tyX7_ok 3 (by decide)) rfl rfl (Nat.le_of_ble_eq_true rfl) dX7_init_22 (fun H locs St => ?_)
  have St : zSt (va_A [(q, .inr (7, [.null, .null, .int 0, .int 0, .null, .null]))] s.heap.size) s D [(q, .inr (7, [.ref q1, .ref q2, .int 0, .int (z32 (-1)), .null, .null])), (q1, .inl (cy 1, 12, .inl (fun _ => z32 0))), (q2, .inl (cy 1, 12, .inl (fun _ => z32 0)))] H locs := St
  refine lv_aload_n C.1 C.2.1 dX7_init_25 rfl (lv_at hl 0 rfl) ?_
  refine lv_sipush (v := 539) C.1 C.2.1 dX7_init_26 (by decide) ?_
  refine zn_newa C St hA (atype := .int) (ty := .int) rfl zw_ai (t0 := 1) rfl (fun _ _ => rfl) (N' := 539) (a0 := (539, .inl (fun _ => z32 0))) (fun _ => rfl) (by decide) (by decide) (by decide) (by first | exact Nat.le_of_ble_eq_true rfl | decide) (by first | exact Nat.le_of_ble_eq_true rfl | decide) dX7_init_29 (fun q3 H St => ?_)
  have St : zSt (va_A [(q, .inr (7, [.null, .null, .int 0, .int 0, .null, .null]))] s.heap.size) s D [(q, .inr (7, [.ref q1, .ref q2, .int 0, .int (z32 (-1)), .null, .null])), (q1, .inl (cy 1, 12, .inl (fun _ => z32 0))), (q2, .inl (cy 1, 12, .inl (fun _ => z32 0))), (q3, .inl (cy 1, 539, .inl (fun _ => z32 0)))] H locs := St
  refine zn_putF C St tyX7 rfl inX7 tyX7_ok nmX7 (k := 4) (by decide) (zm1 204 (by decide +kernel) rfl) rfl rfl (tyX7_ok 4 (by decide)) rfl rfl (Nat.le_of_ble_eq_true rfl) dX7_init_31 (fun H locs St => ?_)
  have St : zSt (va_A [(q, .inr (7, [.null, .null, .int 0, .int 0, .null, .null]))] s.heap.size) s D [(q, .inr (7, [.ref q1, .ref q2, .int 0, .int (z32 (-1)), .ref q3, .null])), (q1, .inl (cy 1, 12, .inl (fun _ => z32 0))), (q2, .inl (cy 1, 12, .inl (fun _ => z32 0))), (q3, .inl (cy 1, 539, .inl (fun _ => z32 0)))] H locs := St
  refine lv_aload_n C.1 C.2.1 dX7_init_34 rfl (lv_at hl 0 rfl) ?_
  refine lv_bipush (v := 7) C.1 C.2.1 dX7_init_35 (by decide) ?_
  refine zn_newa C St hA (atype := .int) (ty := .int) rfl zw_ai (t0 := 1) rfl (fun _ _ => rfl) (N' := 7) (a0 := (7, .inl (fun _ => z32 0))) (fun _ => rfl) (by decide) (by decide) (by decide) (by first | exact Nat.le_of_ble_eq_true rfl | decide) (by first | exact Nat.le_of_ble_eq_true rfl | decide) dX7_init_37 (fun q4 H St => ?_)
  have St : zSt (va_A [(q, .inr (7, [.null, .null, .int 0, .int 0, .null, .null]))] s.heap.size) s D [(q, .inr (7, [.ref q1, .ref q2, .int 0, .int (z32 (-1)), .ref q3, .null])), (q1, .inl (cy 1, 12, .inl (fun _ => z32 0))), (q2, .inl (cy 1, 12, .inl (fun _ => z32 0))), (q3, .inl (cy 1, 539, .inl (fun _ => z32 0))), (q4, .inl (cy 1, 7, .inl (fun _ => z32 0)))] H locs := St
  refine zn_putF C St tyX7 rfl inX7 tyX7_ok nmX7 (k := 5) (by decide) (zm1 205 (by decide +kernel) rfl) rfl rfl (tyX7_ok 5 (by decide)) rfl rfl (Nat.le_of_ble_eq_true rfl) dX7_init_39 (fun H locs St => ?_)
  have St : zSt (va_A [(q, .inr (7, [.null, .null, .int 0, .int 0, .null, .null]))] s.heap.size) s D [(q, .inr (7, [.ref q1, .ref q2, .int 0, .int (z32 (-1)), .ref q3, .ref q4])), (q1, .inl (cy 1, 12, .inl (fun _ => z32 0))), (q2, .inl (cy 1, 12, .inl (fun _ => z32 0))), (q3, .inl (cy 1, 539, .inl (fun _ => z32 0))), (q4, .inl (cy 1, 7, .inl (fun _ => z32 0)))] H locs := St
  refine W.widen (k := 4) (n := 570) (by first | exact Nat.le_of_ble_eq_true rfl | decide) (by first | exact Nat.le_of_ble_eq_true rfl | decide) ?_
  exact W.vret C.1 C.2.1 C.2.2.2.1 (fun t ht hW => ⟨⟨[q1, q2, q3, q4], rfl, rfl, by rw [ht]; exact St.1, St.2.1⟩, St.2.2.F ht⟩) St.2.2.2.2 dX7_init_42 C.2.2.2.2.2.2.1
theorem mcX5 : Cond.code mX5_init.1 mX5_init.2.1 mX5_init.2.2.1 mX5_init.2.2.2 ∈ zTB := (zm1 223 (by decide +kernel) rfl)
def gX5 (cy : Nat → ClassId) (q : Nat) (qs : List Nat) : va_W := [(q, .inr (5, [.ref (qs.getD 0 0), .ref (qs.getD 1 0), .ref (qs.getD 2 0), .ref (qs.getD 3 0)])), ((qs.getD 0 0), .inl (cy 1, 10, .inl (fun _ => z32 0))), ((qs.getD 1 0), .inl (cy 2, 539, .inr (.inl (fun _ => z64 0)))), ((qs.getD 2 0), .inl (cy 2, 539, .inr (.inl (fun _ => z64 0)))), ((qs.getD 3 0), .inl (cy 2, 6, .inr (.inl (fun _ => z64 0))))]
set_option maxHeartbeats 4000000 in
theorem mk_X5 : zMk mX5_init 5 [.null, .null, .null, .null] 1 4 1094 4 gX5 := by
  intro l D cy q sz
  refine Met.ofW (cc := cX5_init) (maxL := 1) (ret := none) (by decide) rfl ?_
  intro p e s m args below meth c s₁ B hml hv
  obtain ⟨rfl, hsz, hP, hK⟩ := hv
  subst hsz
  have C : zCi mX5_init p s m _ meth c D cy := ⟨B.exec, B.bytes, hml, B.returns, findClass_of_methodNamed B.named, atoms_spec (ws := zws mX5_init) B.pre, B.notSynchronized, hK, (name_of_methodNamed B.named B.method).1⟩
  have hA : ∀ a, s.heap.size ≤ a → va_A [(q, (.inr (5, [.null, .null, .null, .null]) : va_E))] s.heap.size a := fun a h => Or.inr h
  have St : zSt (va_A [(q, .inr (5, [.null, .null, .null, .null]))] s.heap.size) s D [(q, .inr (5, [.null, .null, .null, .null]))] s.heap [] := ⟨hP, zD1, va_S.rf⟩
  have hl := lv_entry ([.ref q]) (n := 1) (Nat.le_of_ble_eq_true rfl)
  rw [lg_entry_eq]
  generalize (lg_sl ([.ref q]) ++ List.replicate (1 - (lg_sl ([.ref q])).length) Slot.unset).toArray = ls at hl ⊢
  have hl : lv_has ls 1 [(0, .ref q)] := hl
  generalize hlo : ([] : List Loc) = locs at St ⊢
  refine lv_aload_n C.1 C.2.1 dX5_init_0 rfl (lv_at hl 0 rfl) ?_
  refine W.objInit C.1 C.2.1 C.2.2.2.2.1 (C.w (zm1 224 (by decide +kernel) rfl)) (C.w zw_oi) (C.w zw_oc) rfl (by rw [C.2.2.1]; exact hl.1) rfl dX5_init_1 (Nat.le_of_ble_eq_true rfl) (Nat.le_of_ble_eq_true rfl) ?_
  refine W.eq (g2 := F0 m 4 ls []) rfl ?_
  refine lv_aload_n C.1 C.2.1 dX5_init_4 rfl (lv_at hl 0 rfl) ?_
  refine lv_bipush (v := 10) C.1 C.2.1 dX5_init_5 (by decide) ?_
  refine zn_newa C St hA (atype := .int) (ty := .int) rfl zw_ai (t0 := 1) rfl (fun _ _ => rfl) (N' := 10) (a0 := (10, .inl (fun _ => z32 0))) (fun _ => rfl) (by decide) (by decide) (by decide) (by first | exact Nat.le_of_ble_eq_true rfl | decide) (by first | exact Nat.le_of_ble_eq_true rfl | decide) dX5_init_7 (fun q1 H St => ?_)
  have St : zSt (va_A [(q, .inr (5, [.null, .null, .null, .null]))] s.heap.size) s D [(q, .inr (5, [.null, .null, .null, .null])), (q1, .inl (cy 1, 10, .inl (fun _ => z32 0)))] H locs := St
  refine zn_putF C St tyX5 rfl inX5 tyX5_ok nmX5 (k := 0) (by decide) (zm1 225 (by decide +kernel) rfl) rfl rfl (tyX5_ok 0 (by decide)) rfl rfl (Nat.le_of_ble_eq_true rfl) dX5_init_9 (fun H locs St => ?_)
  have St : zSt (va_A [(q, .inr (5, [.null, .null, .null, .null]))] s.heap.size) s D [(q, .inr (5, [.ref q1, .null, .null, .null])), (q1, .inl (cy 1, 10, .inl (fun _ => z32 0)))] H locs := St
  refine lv_aload_n C.1 C.2.1 dX5_init_12 rfl (lv_at hl 0 rfl) ?_
  refine lv_sipush (v := 539) C.1 C.2.1 dX5_init_13 (by decide) ?_
  refine zn_newa C St hA (atype := .long) (ty := .long) rfl zw_al (t0 := 2) rfl (fun _ _ => rfl) (N' := 539) (a0 := (539, .inr (.inl (fun _ => z64 0)))) (fun _ => rfl) (by decide) (by decide) (by decide) (by first | exact Nat.le_of_ble_eq_true rfl | decide) (by first | exact Nat.le_of_ble_eq_true rfl | decide) dX5_init_16 (fun q2 H St => ?_)
  have St : zSt (va_A [(q, .inr (5, [.null, .null, .null, .null]))] s.heap.size) s D [(q, .inr (5, [.ref q1, .null, .null, .null])), (q1, .inl (cy 1, 10, .inl (fun _ => z32 0))), (q2, .inl (cy 2, 539, .inr (.inl (fun _ => z64 0))))] H locs := St
  refine zn_putF C St tyX5 rfl inX5 tyX5_ok nmX5 (k := 1) (by decide) (zm1 227 (by decide +kernel) rfl) rfl rfl (tyX5_ok 1 (by decide)) rfl rfl (Nat.le_of_ble_eq_true rfl) dX5_init_18 (fun H locs St => ?_)
  have St : zSt (va_A [(q, .inr (5, [.null, .null, .null, .null]))] s.heap.size) s D [(q, .inr (5, [.ref q1, .ref q2, .null, .null])), (q1, .inl (cy 1, 10, .inl (fun _ => z32 0))), (q2, .inl (cy 2, 539, .inr (.inl (fun _ => z64 0))))] H locs := St
  refine lv_aload_n C.1 C.2.1 dX5_init_21 rfl (lv_at hl 0 rfl) ?_
  refine lv_sipush (v := 539) C.1 C.2.1 dX5_init_22 (by decide) ?_
  refine zn_newa C St hA (atype := .long) (ty := .long) rfl zw_al (t0 := 2) rfl (fun _ _ => rfl) (N' := 539) (a0 := (539, .inr (.inl (fun _ => z64 0)))) (fun _ => rfl) (by decide) (by decide) (by decide) (by first | exact Nat.le_of_ble_eq_true rfl | decide) (by first | exact Nat.le_of_ble_eq_true rfl | decide) dX5_init_25 (fun q3 H St => ?_)
  have St : zSt (va_A [(q, .inr (5, [.null, .null, .null, .null]))] s.heap.size) s D [(q, .inr (5, [.ref q1, .ref q2, .null, .null])), (q1, .inl (cy 1, 10, .inl (fun _ => z32 0))), (q2, .inl (cy 2, 539, .inr (.inl (fun _ => z64 0)))), (q3, .inl (cy 2, 539, .inr (.inl (fun _ => z64 0))))] H locs := St
  refine zn_putF C St tyX5 rfl inX5 tyX5_ok nmX5 (k := 2) (by decide) (zm1 228 (by decide +kernel) rfl) rfl rfl (tyX5_ok 2 (by decide)) rfl rfl (Nat.le_of_ble_eq_true rfl) dX5_init_27 (fun H locs St => ?_)
  have St : zSt (va_A [(q, .inr (5, [.null, .null, .null, .null]))] s.heap.size) s D [(q, .inr (5, [.ref q1, .ref q2, .ref q3, .null])), (q1, .inl (cy 1, 10, .inl (fun _ => z32 0))), (q2, .inl (cy 2, 539, .inr (.inl (fun _ => z64 0)))), (q3, .inl (cy 2, 539, .inr (.inl (fun _ => z64 0))))] H locs := St
  refine lv_aload_n C.1 C.2.1 dX5_init_30 rfl (lv_at hl 0 rfl) ?_
  refine lv_bipush (v := 6) C.1 C.2.1 dX5_init_31 (by decide) ?_
  refine zn_newa C St hA (atype := .long) (ty := .long) rfl zw_al (t0 := 2) rfl (fun _ _ => rfl) (N' := 6) (a0 := (6, .inr (.inl (fun _ => z64 0)))) (fun _ => rfl) (by decide) (by decide) (by decide) (by first | exact Nat.le_of_ble_eq_true rfl | decide) (by first | exact Nat.le_of_ble_eq_true rfl | decide) dX5_init_33 (fun q4 H St => ?_)
  have St : zSt (va_A [(q, .inr (5, [.null, .null, .null, .null]))] s.heap.size) s D [(q, .inr (5, [.ref q1, .ref q2, .ref q3, .null])), (q1, .inl (cy 1, 10, .inl (fun _ => z32 0))), (q2, .inl (cy 2, 539, .inr (.inl (fun _ => z64 0)))), (q3, .inl (cy 2, 539, .inr (.inl (fun _ => z64 0)))), (q4, .inl (cy 2, 6, .inr (.inl (fun _ => z64 0))))] H locs := St
  refine zn_putF C St tyX5 rfl inX5 tyX5_ok nmX5 (k := 3) (by decide) (zm1 229 (by decide +kernel) rfl) rfl rfl (tyX5_ok 3 (by decide)) rfl rfl (Nat.le_of_ble_eq_true rfl) dX5_init_35 (fun H locs St => ?_)
  have St : zSt (va_A [(q, .inr (5, [.null, .null, .null, .null]))] s.heap.size) s D [(q, .inr (5, [.ref q1, .ref q2, .ref q3, .ref q4])), (q1, .inl (cy 1, 10, .inl (fun _ => z32 0))), (q2, .inl (cy 2, 539, .inr (.inl (fun _ => z64 0)))), (q3, .inl (cy 2, 539, .inr (.inl (fun _ => z64 0)))), (q4, .inl (cy 2, 6, .inr (.inl (fun _ => z64 0))))] H locs := St
  refine W.widen (k := 4) (n := 1094) (by first | exact Nat.le_of_ble_eq_true rfl | decide) (by first | exact Nat.le_of_ble_eq_true rfl | decide) ?_
  exact W.vret C.1 C.2.1 C.2.2.2.1 (fun t ht hW => ⟨⟨[q1, q2, q3, q4], rfl, rfl, by rw [ht]; exact St.1, St.2.1⟩, St.2.2.F ht⟩) St.2.2.2.2 dX5_init_38 C.2.2.2.2.2.2.1
theorem mcX0 : Cond.code mX0_init.1 mX0_init.2.1 mX0_init.2.2.1 mX0_init.2.2.2 ∈ zTB := (zm2 4 (by decide +kernel) rfl)
def gX0 (cy : Nat → ClassId) (q : Nat) (qs : List Nat) : va_W := [(q, .inr (0, [.int 0, .int 0, .ref (qs.getD 0 0), .ref (qs.getD 1 0), .ref (qs.getD 6 0)])), ((qs.getD 0 0), .inl (cy 1, 6, .inl (fun _ => z32 0))), ((qs.getD 1 0), .inr (6, [.ref (qs.getD 2 0), .ref (qs.getD 3 0), .ref (qs.getD 4 0), .ref (qs.getD 5 0), .int 0])), ((qs.getD 2 0), .inl (cy 1, 6, .inl (fun _ => z32 0))), ((qs.getD 3 0), .inl (cy 1, 6, .inl (fun _ => z32 0))), ((qs.getD 4 0), .inl (cy 1, 6, .inl (fun _ => z32 0))), ((qs.getD 5 0), .inl (cy 1, 10, .inl (fun _ => z32 0))), ((qs.getD 6 0), .inl (cy 2, 601, .inr (.inl (fun _ => z64 0))))]
set_option maxHeartbeats 4000000 in
theorem mk_X0 : zMk mX0_init 0 [.int 0, .int 0, .null, .null, .null] 2 7 640 7 gX0 := by
  intro l D cy q sz
  refine Met.ofW (cc := cX0_init) (maxL := 1) (ret := none) (by decide) rfl ?_
  intro p e s m args below meth c s₁ B hml hv
  obtain ⟨rfl, hsz, hP, hK⟩ := hv
  subst hsz
  have C : zCi mX0_init p s m _ meth c D cy := ⟨B.exec, B.bytes, hml, B.returns, findClass_of_methodNamed B.named, atoms_spec (ws := zws mX0_init) B.pre, B.notSynchronized, hK, (name_of_methodNamed B.named B.method).1⟩
  have hA : ∀ a, s.heap.size ≤ a → va_A [(q, (.inr (0, [.int 0, .int 0, .null, .null, .null]) : va_E))] s.heap.size a := fun a h => Or.inr h
  have St : zSt (va_A [(q, .inr (0, [.int 0, .int 0, .null, .null, .null]))] s.heap.size) s D [(q, .inr (0, [.int 0, .int 0, .null, .null, .null]))] s.heap [] := ⟨hP, zD1, va_S.rf⟩
  have hl := lv_entry ([.ref q]) (n := 1) (Nat.le_of_ble_eq_true rfl)
  rw [lg_entry_eq]
  generalize (lg_sl ([.ref q]) ++ List.replicate (1 - (lg_sl ([.ref q])).length) Slot.unset).toArray = ls at hl ⊢
  have hl : lv_has ls 1 [(0, .ref q)] := hl
  generalize hlo : ([] : List Loc) = locs at St ⊢
  refine lv_aload_n C.1 C.2.1 dX0_init_0 rfl (lv_at hl 0 rfl) ?_
  refine W.objInit C.1 C.2.1 C.2.2.2.2.1 (C.w (zm2 5 (by decide +kernel) rfl)) (C.w zw_oi) (C.w zw_oc) rfl (by rw [C.2.2.1]; exact hl.1) rfl dX0_init_1 (Nat.le_of_ble_eq_true rfl) (Nat.le_of_ble_eq_true rfl) ?_
  refine W.eq (g2 := F0 m 4 ls []) rfl ?_
  refine lv_aload_n C.1 C.2.1 dX0_init_4 rfl (lv_at hl 0 rfl) ?_
  refine lv_bipush (v := 6) C.1 C.2.1 dX0_init_5 (by decide) ?_
  refine zn_newa C St hA (atype := .int) (ty := .int) rfl zw_ai (t0 := 1) rfl (fun _ _ => rfl) (N' := 6) (a0 := (6, .inl (fun _ => z32 0))) (fun _ => rfl) (by decide) (by decide) (by decide) (by first | exact Nat.le_of_ble_eq_true rfl | decide) (by first | exact Nat.le_of_ble_eq_true rfl | decide) dX0_init_7 (fun q1 H St => ?_)
  have St : zSt (va_A [(q, .inr (0, [.int 0, .int 0, .null, .null, .null]))] s.heap.size) s D [(q, .inr (0, [.int 0, .int 0, .null, .null, .null])), (q1, .inl (cy 1, 6, .inl (fun _ => z32 0)))] H locs := St
  refine zn_putF C St tyX0 rfl inX0 tyX0_ok nmX0 (k := 2) (by decide) (zm2 12 (by decide +kernel) rfl) rfl rfl (tyX0_ok 2 (by decide)) rfl rfl (Nat.le_of_ble_eq_true rfl) dX0_init_9 (fun H locs St => ?_)
  have St : zSt (va_A [(q, .inr (0, [.int 0, .int 0, .null, .null, .null]))] s.heap.size) s D [(q, .inr (0, [.int 0, .int 0, .ref q1, .null, .null])), (q1, .inl (cy 1, 6, .inl (fun _ => z32 0)))] H locs := St
  refine lv_aload_n C.1 C.2.1 dX0_init_12 rfl (lv_at hl 0 rfl) ?_
  refine zn_mk C St hA hl.1 mk_X6 tyX6 rfl inX6 tyX6_ok (fun j hj => by rcases (show j = 0 ∨ j = 1 ∨ j = 2 ∨ j = 3 ∨ j = 4 by omega) with rfl | rfl | rfl | rfl | rfl <;> rfl) (zm2 6 (by decide +kernel) rfl) (zm1 117 (by decide +kernel) rfl) (zm1 4 (by decide +kernel) rfl) (by decide +kernel) mcX6 rfl rfl (zm1 119 (by decide +kernel) rfl) ⟨by decide, by decide, by decide⟩ ⟨by decide, by decide⟩ (Nat.le_of_ble_eq_true rfl) (by decide) (by decide) dX0_init_13 dX0_init_16 dX0_init_17 (fun q2 qs H locs hqs St => ?_)
  obtain ⟨q3, q4, q5, q6, rfl⟩ := zl4 hqs
  have St : zSt (va_A [(q, .inr (0, [.int 0, .int 0, .null, .null, .null]))] s.heap.size) s D [(q, .inr (0, [.int 0, .int 0, .ref q1, .null, .null])), (q1, .inl (cy 1, 6, .inl (fun _ => z32 0))), (q2, .inr (6, [.ref q3, .ref q4, .ref q5, .ref q6, .int 0])), (q3, .inl (cy 1, 6, .inl (fun _ => z32 0))), (q4, .inl (cy 1, 6, .inl (fun _ => z32 0))), (q5, .inl (cy 1, 6, .inl (fun _ => z32 0))), (q6, .inl (cy 1, 10, .inl (fun _ => z32 0)))] H locs := St
  refine zn_putF C St tyX0 rfl inX0 tyX0_ok nmX0 (k := 3) (by decide) (zm2 13 (by decide +kernel) rfl) rfl rfl (tyX0_ok 3 (by decide)) rfl rfl (Nat.le_of_ble_eq_true rfl) dX0_init_20 (fun H locs St => ?_)
  have St : zSt (va_A [(q, .inr (0, [.int 0, .int 0, .null, .null, .null]))] s.heap.size) s D [(q, .inr (0, [.int 0, .int 0, .ref q1, .ref q2, .null])), (q1, .inl (cy 1, 6, .inl (fun _ => z32 0))), (q2, .inr (6, [.ref q3, .ref q4, .ref q5, .ref q6, .int 0])), (q3, .inl (cy 1, 6, .inl (fun _ => z32 0))), (q4, .inl (cy 1, 6, .inl (fun _ => z32 0))), (q5, .inl (cy 1, 6, .inl (fun _ => z32 0))), (q6, .inl (cy 1, 10, .inl (fun _ => z32 0)))] H locs := St
  refine lv_aload_n C.1 C.2.1 dX0_init_23 rfl (lv_at hl 0 rfl) ?_
  refine lv_sipush (v := 601) C.1 C.2.1 dX0_init_24 (by decide) ?_
  refine zn_newa C St hA (atype := .long) (ty := .long) rfl zw_al (t0 := 2) rfl (fun _ _ => rfl) (N' := 601) (a0 := (601, .inr (.inl (fun _ => z64 0)))) (fun _ => rfl) (by decide) (by decide) (by decide) (by first | exact Nat.le_of_ble_eq_true rfl | decide) (by first | exact Nat.le_of_ble_eq_true rfl | decide) dX0_init_27 (fun q7 H St => ?_)
  have St : zSt (va_A [(q, .inr (0, [.int 0, .int 0, .null, .null, .null]))] s.heap.size) s D [(q, .inr (0, [.int 0, .int 0, .ref q1, .ref q2, .null])), (q1, .inl (cy 1, 6, .inl (fun _ => z32 0))), (q2, .inr (6, [.ref q3, .ref q4, .ref q5, .ref q6, .int 0])), (q3, .inl (cy 1, 6, .inl (fun _ => z32 0))), (q4, .inl (cy 1, 6, .inl (fun _ => z32 0))), (q5, .inl (cy 1, 6, .inl (fun _ => z32 0))), (q6, .inl (cy 1, 10, .inl (fun _ => z32 0))), (q7, .inl (cy 2, 601, .inr (.inl (fun _ => z64 0))))] H locs := St
  refine zn_putF C St tyX0 rfl inX0 tyX0_ok nmX0 (k := 4) (by decide) (zm2 14 (by decide +kernel) rfl) rfl rfl (tyX0_ok 4 (by decide)) rfl rfl (Nat.le_of_ble_eq_true rfl) dX0_init_29 (fun H locs St => ?_)
  have St : zSt (va_A [(q, .inr (0, [.int 0, .int 0, .null, .null, .null]))] s.heap.size) s D [(q, .inr (0, [.int 0, .int 0, .ref q1, .ref q2, .ref q7])), (q1, .inl (cy 1, 6, .inl (fun _ => z32 0))), (q2, .inr (6, [.ref q3, .ref q4, .ref q5, .ref q6, .int 0])), (q3, .inl (cy 1, 6, .inl (fun _ => z32 0))), (q4, .inl (cy 1, 6, .inl (fun _ => z32 0))), (q5, .inl (cy 1, 6, .inl (fun _ => z32 0))), (q6, .inl (cy 1, 10, .inl (fun _ => z32 0))), (q7, .inl (cy 2, 601, .inr (.inl (fun _ => z64 0))))] H locs := St
  refine W.widen (k := 7) (n := 640) (by first | exact Nat.le_of_ble_eq_true rfl | decide) (by first | exact Nat.le_of_ble_eq_true rfl | decide) ?_
  exact W.vret C.1 C.2.1 C.2.2.2.1 (fun t ht hW => ⟨⟨[q1, q2, q3, q4, q5, q6, q7], rfl, rfl, by rw [ht]; exact St.1, St.2.1⟩, St.2.2.F ht⟩) St.2.2.2.2 dX0_init_32 C.2.2.2.2.2.2.1
