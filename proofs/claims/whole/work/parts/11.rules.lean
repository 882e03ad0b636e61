/-! rules, one an instruction -/
theorem zlv {al : Nat → Nat} {L : List AV} {n : Nat} {ls : Array Slot} (h : zok al L n ls) {i : Nat} {v : AV} (hi : L[i]? = some v) (hv : v.1 < 3) : ls[i]? = some (.val (zcv al v)) := h.2.2 i v hi hv
/-- the listed locals of a list -/
def zll (al : Nat → Nat) (L : List AV) : List (Nat × Value) := (List.range L.length).filterMap (fun i => match L[i]? with | some v => if v.1 < 3 then some (i, zcv al v) else none | none => none)
theorem zll_mem {al : Nat → Nat} {L : List AV} {q : Nat × Value} : q ∈ zll al L ↔ ∃ v : AV, L[q.1]? = some v ∧ v.1 < 3 ∧ q.2 = zcv al v := by
  unfold zll
  rw [List.mem_filterMap]
  constructor
  · rintro ⟨i, hi, h⟩
    cases hL : L[i]? with
    | none => rw [hL] at h; cases h
    | some v =>
      rw [hL] at h
      by_cases hv : v.1 < 3
      · simp only [if_pos hv] at h
        cases h
        exact ⟨v, hL, hv, rfl⟩
      · simp only [if_neg hv] at h
        cases h
  · rintro ⟨v, h1, h2, h3⟩
    refine ⟨q.1, List.mem_range.mpr (List.getElem?_eq_some_iff.mp h1).1, ?_⟩
    rw [h1]
    simp only [if_pos h2, ← h3]
theorem zll_has {al : Nat → Nat} {L : List AV} {n : Nat} {ls : Array Slot} (h : zok al L n ls) : lv_has ls n (zll al L) := ⟨h.1, h.2.1, fun q hq => by
  obtain ⟨v, h1, h2, h3⟩ := zll_mem.mp hq
  rw [h3]
  exact h.2.2 _ v h1 h2⟩
/-- what a store leaves: a long one place below is gone -/
def zkp (L : List AV) (i : Nat) : List AV := match i with
  | 0 => L
  | j + 1 => match L[j]? with
    | some (1, _) => L.set j zU
    | _ => L
def zsi (L : List AV) (i : Nat) (v : AV) : List AV := (zkp L i).set i v
def zsj (L : List AV) (i : Nat) (v : AV) : List AV := ((zkp L i).set i v).set (i + 1) zU
theorem zkp_at {L : List AV} {i j : Nat} {v : AV} (h : (zkp L i)[j]? = some v) (hv : v.1 < 3) : L[j]? = some v ∧ ¬ (j + 1 = i ∧ v.1 = 1) := by
  unfold zkp at h
  cases i with
  | zero => exact ⟨h, fun q => by omega⟩
  | succ k =>
    dsimp only at h
    split at h
    · rename_i x hx
      by_cases hjk : j = k
      · subst hjk
        rw [List.getElem?_set_self (List.getElem?_eq_some_iff.mp hx).1] at h
        cases h
        exact absurd hv (by decide)
      · rw [List.getElem?_set_ne (Ne.symm hjk)] at h
        exact ⟨h, fun q => hjk (by omega)⟩
    · rename_i hx
      refine ⟨h, fun q => ?_⟩
      have hjk : j = k := by omega
      subst hjk
      exact hx v.2 (by rw [h, ← q.2])
theorem zcat {al : Nat → Nat} {v : AV} : (zcv al v).category = (if v.1 = 1 then 2 else 1) := by
  obtain ⟨t, x⟩ := v
  unfold zcv
  match t with
  | 0 => rfl
  | 1 => rfl
  | t + 2 => simp [Value.category]
theorem zok_si {al : Nat → Nat} {L : List AV} {n i : Nat} {v : AV} {ls' : Array Slot} {x : Value} (hx : x = zcv al v) (h : lv_has ls' n ((i, x) :: (zll al L).filter (fun q => !(q.1 == i) && !(q.1 + 1 == i && q.2.category == 2)))) : zok al (zsi L i v) n ls' := by
  subst hx
  refine ⟨h.1, h.2.1, fun j w hj hw => ?_⟩
  unfold zsi at hj
  by_cases hji : j = i
  · subst hji
    by_cases hl : j < (zkp L j).length
    · rw [List.getElem?_set_self hl] at hj
      cases hj
      exact h.2.2 (j, _) (List.mem_cons.mpr (Or.inl rfl))
    · rw [List.getElem?_eq_none (by simpa using hl)] at hj
      cases hj
  · rw [List.getElem?_set_ne (Ne.symm hji)] at hj
    obtain ⟨h1, h2⟩ := zkp_at hj hw
    refine h.2.2 (j, _) (List.mem_cons.mpr (Or.inr (List.mem_filter.mpr ⟨zll_mem.mpr ⟨w, h1, hw, rfl⟩, ?_⟩)))
    show (!(j == i) && !(j + 1 == i && (zcv al w).category == 2)) = true
    rw [zcat]
    by_cases hw1 : w.1 = 1
    · have : ¬ j + 1 = i := fun q => h2 ⟨q, hw1⟩
      simp [hji, this]
    · simp [hji, hw1]
theorem zok_sj {al : Nat → Nat} {L : List AV} {n i : Nat} {v : AV} {ls' : Array Slot} {x : Value} (hx : x = zcv al v) (h : lv_has ls' n ((i, x) :: (zll al L).filter (fun q => !(q.1 == i) && (!(q.1 == i + 1) && !(q.1 + 1 == i && q.2.category == 2))))) : zok al (zsj L i v) n ls' := by
  subst hx
  refine ⟨h.1, h.2.1, fun j w hj hw => ?_⟩
  unfold zsj at hj
  by_cases hj1 : j = i + 1
  · subst hj1
    by_cases hl : i + 1 < ((zkp L i).set i v).length
    · rw [List.getElem?_set_self hl] at hj
      cases hj
      exact absurd hw (by decide)
    · rw [List.getElem?_eq_none (by simpa using hl)] at hj
      cases hj
  rw [List.getElem?_set_ne (Ne.symm hj1)] at hj
  by_cases hji : j = i
  · subst hji
    by_cases hl : j < (zkp L j).length
    · rw [List.getElem?_set_self hl] at hj
      cases hj
      exact h.2.2 (j, _) (List.mem_cons.mpr (Or.inl rfl))
    · rw [List.getElem?_eq_none (by simpa using hl)] at hj
      cases hj
  · rw [List.getElem?_set_ne (Ne.symm hji)] at hj
    obtain ⟨h1, h2⟩ := zkp_at hj hw
    refine h.2.2 (j, _) (List.mem_cons.mpr (Or.inr (List.mem_filter.mpr ⟨zll_mem.mpr ⟨w, h1, hw, rfl⟩, ?_⟩)))
    show (!(j == i) && (!(j == i + 1) && !(j + 1 == i && (zcv al w).category == 2))) = true
    rw [zcat]
    by_cases hw1 : w.1 = 1
    · have : ¬ j + 1 = i := fun q => h2 ⟨q, hw1⟩
      simp [hji, hj1, this]
    · simp [hji, hj1, hw1]
theorem zt3 {t : Nat} {x : Int} (h : t < 3) : ((t, x) : AV).1 < 3 := h
section ZR
variable {K d : Nat} {Y : MI} {pc : Nat} {L st : List AV} {mu : Mem} {Q : AV → Mem → Prop}
theorem g_iconst {n : Int} (hd : decode Y.2.1 pc = .ok (.iconst n, 1)) (k : zG K d Y (pc + 1) L (zI n :: st) mu Q) : zG K d Y pc L st mu Q := by
  intro p l e s m args below meth c D cy al C H locs ls hP hS hL
  exact lv_iconst C.1 C.2.1 hd rfl (k p l e s m args below meth c D cy al C H locs ls hP hS hL)
theorem g_bipush {n : Int} (hd : decode Y.2.1 pc = .ok (.bipush n, 2)) (hn : (Int8.ofInt n).toInt32 = z32 n) (k : zG K d Y (pc + 2) L (zI n :: st) mu Q) : zG K d Y pc L st mu Q := by
  intro p l e s m args below meth c D cy al C H locs ls hP hS hL
  exact lv_bipush C.1 C.2.1 hd hn (k p l e s m args below meth c D cy al C H locs ls hP hS hL)
theorem g_sipush {n : Int} (hd : decode Y.2.1 pc = .ok (.sipush n, 3)) (hn : (Int16.ofInt n).toInt32 = z32 n) (k : zG K d Y (pc + 3) L (zI n :: st) mu Q) : zG K d Y pc L st mu Q := by
  intro p l e s m args below meth c D cy al C H locs ls hP hS hL
  exact lv_sipush C.1 C.2.1 hd hn (k p l e s m args below meth c D cy al C H locs ls hP hS hL)
theorem g_ldc {i : Nat} {x : Int} (hc : Cond.constant Y.1.cls i (z32 x) ∈ zTB) (hd : decode Y.2.1 pc = .ok (.ldc i, 2)) (k : zG K d Y (pc + 2) L (zI x :: st) mu Q) : zG K d Y pc L st mu Q := by
  intro p l e s m args below meth c D cy al C H locs ls hP hS hL
  exact lv_ldc C.1 C.2.1 C.2.2.2.2.1 (C.2.2.2.2.2.1 _ (List.mem_cons_of_mem _ hc)) hd (k p l e s m args below meth c D cy al C H locs ls hP hS hL)
theorem g_ldc2 {i : Nat} {x : Int} (hc : Cond.constantLong Y.1.cls i (z64 x) ∈ zTB) (hd : decode Y.2.1 pc = .ok (.ldc2_w i, 3)) (k : zG K d Y (pc + 3) L (zJ x :: st) mu Q) : zG K d Y pc L st mu Q := by
  intro p l e s m args below meth c D cy al C H locs ls hP hS hL
  exact lv_ldc2 C.1 C.2.1 C.2.2.2.2.1 (C.2.2.2.2.2.1 _ (List.mem_cons_of_mem _ hc)) hd (k p l e s m args below meth c D cy al C H locs ls hP hS hL)
theorem g_lconst {n : Fin 2} {x : Int} (hd : decode Y.2.1 pc = .ok (.lconst n, 1)) (hn : Int64.ofNat (n : Nat) = z64 x) (k : zG K d Y (pc + 1) L (zJ x :: st) mu Q) : zG K d Y pc L st mu Q := by
  intro p l e s m args below meth c D cy al C H locs ls hP hS hL
  exact lv_lconst C.1 C.2.1 hd hn (k p l e s m args below meth c D cy al C H locs ls hP hS hL)
theorem g_iload {i : Nat} {x : Int} (hd : decode Y.2.1 pc = .ok (.iload i, 2)) (hi : L[i]? = some (zI x)) (k : zG K d Y (pc + 2) L (zI x :: st) mu Q) : zG K d Y pc L st mu Q := by
  intro p l e s m args below meth c D cy al C H locs ls hP hS hL
  exact lv_iload C.1 C.2.1 hd (zlv hL hi (zt3 (by decide))) (k p l e s m args below meth c D cy al C H locs ls hP hS hL)
theorem g_iload_n {n : Fin 4} {x : Int} (hd : decode Y.2.1 pc = .ok (.iload_n n, 1)) (hi : L[(n : Nat)]? = some (zI x)) (k : zG K d Y (pc + 1) L (zI x :: st) mu Q) : zG K d Y pc L st mu Q := by
  intro p l e s m args below meth c D cy al C H locs ls hP hS hL
  exact lv_iload_n C.1 C.2.1 hd rfl (zlv hL hi (zt3 (by decide))) (k p l e s m args below meth c D cy al C H locs ls hP hS hL)
theorem g_istore {i : Nat} {x : Int} {L' : List AV} (hd : decode Y.2.1 pc = .ok (.istore i, 2)) (hn : i < Y.2.2.1) (hl : zsi L i (zI x) = L') (k : zG K d Y (pc + 2) L' st mu Q) : zG K d Y pc L (zI x :: st) mu Q := by
  intro p l e s m args below meth c D cy al C H locs ls hP hS hL
  exact lv_istore C.1 C.2.1 hd (zll_has hL) hn rfl (fun ls' h' => k p l e s m args below meth c D cy al C H locs ls' hP hS (hl ▸ zok_si rfl h'))
theorem g_istore_n {n : Fin 4} {x : Int} {L' : List AV} (hd : decode Y.2.1 pc = .ok (.istore_n n, 1)) (hn : (n : Nat) < Y.2.2.1) (hl : zsi L n (zI x) = L') (k : zG K d Y (pc + 1) L' st mu Q) : zG K d Y pc L (zI x :: st) mu Q := by
  intro p l e s m args below meth c D cy al C H locs ls hP hS hL
  exact lv_istore_n C.1 C.2.1 hd rfl (zll_has hL) hn rfl (fun ls' h' => k p l e s m args below meth c D cy al C H locs ls' hP hS (hl ▸ zok_si rfl h'))
theorem g_lload {i : Nat} {x : Int} (hd : decode Y.2.1 pc = .ok (.lload i, 2)) (hi : L[i]? = some (zJ x)) (k : zG K d Y (pc + 2) L (zJ x :: st) mu Q) : zG K d Y pc L st mu Q := by
  intro p l e s m args below meth c D cy al C H locs ls hP hS hL
  exact lv_lload C.1 C.2.1 hd (zlv hL hi (zt3 (by decide))) (k p l e s m args below meth c D cy al C H locs ls hP hS hL)
theorem g_lload_n {n : Fin 4} {x : Int} (hd : decode Y.2.1 pc = .ok (.lload_n n, 1)) (hi : L[(n : Nat)]? = some (zJ x)) (k : zG K d Y (pc + 1) L (zJ x :: st) mu Q) : zG K d Y pc L st mu Q := by
  intro p l e s m args below meth c D cy al C H locs ls hP hS hL
  exact lv_lload_n C.1 C.2.1 hd rfl (zlv hL hi (zt3 (by decide))) (k p l e s m args below meth c D cy al C H locs ls hP hS hL)
theorem g_lstore {i : Nat} {x : Int} {L' : List AV} (hd : decode Y.2.1 pc = .ok (.lstore i, 2)) (hn : i + 1 < Y.2.2.1) (hl : zsj L i (zJ x) = L') (k : zG K d Y (pc + 2) L' st mu Q) : zG K d Y pc L (zJ x :: st) mu Q := by
  intro p l e s m args below meth c D cy al C H locs ls hP hS hL
  exact lv_lstore C.1 C.2.1 hd (zll_has hL) hn rfl (fun ls' h' => k p l e s m args below meth c D cy al C H locs ls' hP hS (hl ▸ zok_sj rfl h'))
theorem g_lstore_n {n : Fin 4} {x : Int} {L' : List AV} (hd : decode Y.2.1 pc = .ok (.lstore_n n, 1)) (hn : (n : Nat) + 1 < Y.2.2.1) (hl : zsj L n (zJ x) = L') (k : zG K d Y (pc + 1) L' st mu Q) : zG K d Y pc L (zJ x :: st) mu Q := by
  intro p l e s m args below meth c D cy al C H locs ls hP hS hL
  exact lv_lstore_n C.1 C.2.1 hd rfl (zll_has hL) hn rfl (fun ls' h' => k p l e s m args below meth c D cy al C H locs ls' hP hS (hl ▸ zok_sj rfl h'))
theorem g_aload {i : Nat} {x : Int} (hd : decode Y.2.1 pc = .ok (.aload i, 2)) (hi : L[i]? = some (zR x)) (k : zG K d Y (pc + 2) L (zR x :: st) mu Q) : zG K d Y pc L st mu Q := by
  intro p l e s m args below meth c D cy al C H locs ls hP hS hL
  exact lv_aload C.1 C.2.1 hd (zlv hL hi (zt3 (by decide))) (k p l e s m args below meth c D cy al C H locs ls hP hS hL)
theorem g_aload_n {n : Fin 4} {x : Int} (hd : decode Y.2.1 pc = .ok (.aload_n n, 1)) (hi : L[(n : Nat)]? = some (zR x)) (k : zG K d Y (pc + 1) L (zR x :: st) mu Q) : zG K d Y pc L st mu Q := by
  intro p l e s m args below meth c D cy al C H locs ls hP hS hL
  exact lv_aload_n C.1 C.2.1 hd rfl (zlv hL hi (zt3 (by decide))) (k p l e s m args below meth c D cy al C H locs ls hP hS hL)
theorem g_astore {i : Nat} {x : Int} {L' : List AV} (hd : decode Y.2.1 pc = .ok (.astore i, 2)) (hn : i < Y.2.2.1) (hl : zsi L i (zR x) = L') (k : zG K d Y (pc + 2) L' st mu Q) : zG K d Y pc L (zR x :: st) mu Q := by
  intro p l e s m args below meth c D cy al C H locs ls hP hS hL
  exact lv_astore C.1 C.2.1 hd (zll_has hL) hn rfl (fun ls' h' => k p l e s m args below meth c D cy al C H locs ls' hP hS (hl ▸ zok_si rfl h'))
theorem g_astore_n {n : Fin 4} {x : Int} {L' : List AV} (hd : decode Y.2.1 pc = .ok (.astore_n n, 1)) (hn : (n : Nat) < Y.2.2.1) (hl : zsi L n (zR x) = L') (k : zG K d Y (pc + 1) L' st mu Q) : zG K d Y pc L (zR x :: st) mu Q := by
  intro p l e s m args below meth c D cy al C H locs ls hP hS hL
  exact lv_astore_n C.1 C.2.1 hd rfl (zll_has hL) hn rfl (fun ls' h' => k p l e s m args below meth c D cy al C H locs ls' hP hS (hl ▸ zok_si rfl h'))
theorem g_iinc {i : Nat} {n x : Int} {L' : List AV} (hd : decode Y.2.1 pc = .ok (.iinc i n, 3)) (hi : L[i]? = some (zI x)) (hn : i < Y.2.2.1) (hl : zsi L i (zI (x + n)) = L') (k : zG K d Y (pc + 3) L' st mu Q) : zG K d Y pc L st mu Q := by
  intro p l e s m args below meth c D cy al C H locs ls hP hS hL
  obtain ⟨q, hq⟩ := List.getElem?_of_mem (zll_mem (al := al) (q := (i, Value.int (z32 x))) |>.mpr ⟨zI x, hi, zt3 (by decide), rfl⟩)
  exact lv_iinc C.1 C.2.1 hd (zll_has hL) hq (v := z32 (x + n)) (z32_add x n).symm hn rfl (fun ls' h' => k p l e s m args below meth c D cy al C H locs ls' hP hS (hl ▸ zok_si rfl h'))
theorem g_iadd {a b : Int} (hd : decode Y.2.1 pc = .ok (.iadd, 1)) (k : zG K d Y (pc + 1) L (zI (a + b) :: st) mu Q) : zG K d Y pc L (zI b :: zI a :: st) mu Q := by
  intro p l e s m args below meth c D cy al C H locs ls hP hS hL
  refine lv_iadd C.1 C.2.1 hd ?_
  rw [← z32_add]
  exact k p l e s m args below meth c D cy al C H locs ls hP hS hL
theorem g_isub {a b : Int} (hd : decode Y.2.1 pc = .ok (.isub, 1)) (k : zG K d Y (pc + 1) L (zI (a - b) :: st) mu Q) : zG K d Y pc L (zI b :: zI a :: st) mu Q := by
  intro p l e s m args below meth c D cy al C H locs ls hP hS hL
  refine lv_isub C.1 C.2.1 hd ?_
  rw [← z32_sub]
  exact k p l e s m args below meth c D cy al C H locs ls hP hS hL
theorem g_imul {a b : Int} (hd : decode Y.2.1 pc = .ok (.imul, 1)) (k : zG K d Y (pc + 1) L (zI (a * b) :: st) mu Q) : zG K d Y pc L (zI b :: zI a :: st) mu Q := by
  intro p l e s m args below meth c D cy al C H locs ls hP hS hL
  refine lv_imul C.1 C.2.1 hd ?_
  rw [← z32_mul]
  exact k p l e s m args below meth c D cy al C H locs ls hP hS hL
theorem g_ladd {a b : Int} (hd : decode Y.2.1 pc = .ok (.ladd, 1)) (k : zG K d Y (pc + 1) L (zJ (a + b) :: st) mu Q) : zG K d Y pc L (zJ b :: zJ a :: st) mu Q := by
  intro p l e s m args below meth c D cy al C H locs ls hP hS hL
  refine lv_ladd C.1 C.2.1 hd ?_
  rw [← z64_add]
  exact k p l e s m args below meth c D cy al C H locs ls hP hS hL
theorem g_lmul {a b : Int} (hd : decode Y.2.1 pc = .ok (.lmul, 1)) (k : zG K d Y (pc + 1) L (zJ (a * b) :: st) mu Q) : zG K d Y pc L (zJ b :: zJ a :: st) mu Q := by
  intro p l e s m args below meth c D cy al C H locs ls hP hS hL
  refine lv_lmul C.1 C.2.1 hd ?_
  rw [← z64_mul]
  exact k p l e s m args below meth c D cy al C H locs ls hP hS hL
theorem g_ishl {a b x : Int} (hd : decode Y.2.1 pc = .ok (.ishl, 1)) (hx : z32 a <<< (z32 b &&& 31) = z32 x) (k : zG K d Y (pc + 1) L (zI x :: st) mu Q) : zG K d Y pc L (zI b :: zI a :: st) mu Q := by
  intro p l e s m args below meth c D cy al C H locs ls hP hS hL
  refine lv_ishl C.1 C.2.1 hd ?_
  rw [hx]
  exact k p l e s m args below meth c D cy al C H locs ls hP hS hL
theorem g_ishr {a b x : Int} (hd : decode Y.2.1 pc = .ok (.ishr, 1)) (hx : z32 a >>> (z32 b &&& 31) = z32 x) (k : zG K d Y (pc + 1) L (zI x :: st) mu Q) : zG K d Y pc L (zI b :: zI a :: st) mu Q := by
  intro p l e s m args below meth c D cy al C H locs ls hP hS hL
  refine lv_ishr C.1 C.2.1 hd ?_
  rw [hx]
  exact k p l e s m args below meth c D cy al C H locs ls hP hS hL
theorem g_iand {a b x : Int} (hd : decode Y.2.1 pc = .ok (.iand, 1)) (hx : z32 a &&& z32 b = z32 x) (k : zG K d Y (pc + 1) L (zI x :: st) mu Q) : zG K d Y pc L (zI b :: zI a :: st) mu Q := by
  intro p l e s m args below meth c D cy al C H locs ls hP hS hL
  refine lv_iand C.1 C.2.1 hd ?_
  rw [hx]
  exact k p l e s m args below meth c D cy al C H locs ls hP hS hL
theorem g_ior {a b x : Int} (hd : decode Y.2.1 pc = .ok (.ior, 1)) (hx : z32 a ||| z32 b = z32 x) (k : zG K d Y (pc + 1) L (zI x :: st) mu Q) : zG K d Y pc L (zI b :: zI a :: st) mu Q := by
  intro p l e s m args below meth c D cy al C H locs ls hP hS hL
  refine lv_ior C.1 C.2.1 hd ?_
  rw [hx]
  exact k p l e s m args below meth c D cy al C H locs ls hP hS hL
theorem g_ixor {a b x : Int} (hd : decode Y.2.1 pc = .ok (.ixor, 1)) (hx : z32 a ^^^ z32 b = z32 x) (k : zG K d Y (pc + 1) L (zI x :: st) mu Q) : zG K d Y pc L (zI b :: zI a :: st) mu Q := by
  intro p l e s m args below meth c D cy al C H locs ls hP hS hL
  refine lv_ixor C.1 C.2.1 hd ?_
  rw [hx]
  exact k p l e s m args below meth c D cy al C H locs ls hP hS hL
theorem g_land {a b x : Int} (hd : decode Y.2.1 pc = .ok (.land, 1)) (hx : z64 a &&& z64 b = z64 x) (k : zG K d Y (pc + 1) L (zJ x :: st) mu Q) : zG K d Y pc L (zJ b :: zJ a :: st) mu Q := by
  intro p l e s m args below meth c D cy al C H locs ls hP hS hL
  refine lv_land C.1 C.2.1 hd ?_
  rw [hx]
  exact k p l e s m args below meth c D cy al C H locs ls hP hS hL
theorem g_lor {a b x : Int} (hd : decode Y.2.1 pc = .ok (.lor, 1)) (hx : z64 a ||| z64 b = z64 x) (k : zG K d Y (pc + 1) L (zJ x :: st) mu Q) : zG K d Y pc L (zJ b :: zJ a :: st) mu Q := by
  intro p l e s m args below meth c D cy al C H locs ls hP hS hL
  refine lv_lor C.1 C.2.1 hd ?_
  rw [hx]
  exact k p l e s m args below meth c D cy al C H locs ls hP hS hL
theorem g_lshl {a b x : Int} (hd : decode Y.2.1 pc = .ok (.lshl, 1)) (hx : z64 a <<< ((z32 b).toInt64 &&& 63) = z64 x) (k : zG K d Y (pc + 1) L (zJ x :: st) mu Q) : zG K d Y pc L (zI b :: zJ a :: st) mu Q := by
  intro p l e s m args below meth c D cy al C H locs ls hP hS hL
  exact lv_lshl C.1 C.2.1 hd hx (k p l e s m args below meth c D cy al C H locs ls hP hS hL)
theorem g_lshr {a b x : Int} (hd : decode Y.2.1 pc = .ok (.lshr, 1)) (hx : z64 a >>> ((z32 b).toInt64 &&& 63) = z64 x) (k : zG K d Y (pc + 1) L (zJ x :: st) mu Q) : zG K d Y pc L (zI b :: zJ a :: st) mu Q := by
  intro p l e s m args below meth c D cy al C H locs ls hP hS hL
  exact lv_lshr C.1 C.2.1 hd hx (k p l e s m args below meth c D cy al C H locs ls hP hS hL)
theorem g_lushr {a b x : Int} (hd : decode Y.2.1 pc = .ok (.lushr, 1)) (hx : ((z64 a).toUInt64 >>> ((z32 b).toInt64.toUInt64 &&& Int64.toUInt64 63)).toInt64 = z64 x) (k : zG K d Y (pc + 1) L (zJ x :: st) mu Q) : zG K d Y pc L (zI b :: zJ a :: st) mu Q := by
  intro p l e s m args below meth c D cy al C H locs ls hP hS hL
  exact lv_lushr C.1 C.2.1 hd hx (k p l e s m args below meth c D cy al C H locs ls hP hS hL)
theorem z32_div {a b : Int} (ha : zin a) (hb : zin b) (h : 0 < b) : z32 a / z32 b = z32 (a.tdiv b) := by
  apply Int32.toInt_inj.mp
  rw [Int32.toInt_div, z32_toInt ha, z32_toInt hb, z32]
  rw [Int32.toInt_ofInt]
theorem z32_ne {b : Int} (hb : zin b) (h : 0 < b) : ¬ z32 b = 0 := by
  rw [z32_0, z32_eq hb zin_0]
  omega
theorem z64_ne {b : Int} (hb : zil b) (h : 0 < b) : ¬ z64 b = 0 := by
  rw [show (0 : Int64) = z64 0 from rfl, z64_eq hb (by unfold zil; decide)]
  omega
theorem z64_div {a b : Int} (ha : zil a) (hb : zil b) (h : 0 < b) : z64 a / z64 b = z64 (a.tdiv b) := by
  apply Int64.toInt_inj.mp
  rw [Int64.toInt_div, z64_toInt ha, z64_toInt hb, z64]
  rw [Int64.toInt_ofInt]
theorem z32_rem {a b : Int} (ha : zin a) (hb : zin b) (h : 0 < b) : z32 a - z32 a / z32 b * z32 b = z32 (a.tmod b) := by
  rw [z32_div ha hb h, ← z32_mul, ← z32_sub]
  congr 1
  have := Int.tmod_add_tdiv_mul a b
  omega
theorem z64_rem {a b : Int} (ha : zil a) (hb : zil b) (h : 0 < b) : z64 a - z64 a / z64 b * z64 b = z64 (a.tmod b) := by
  rw [z64_div ha hb h, ← z64_mul, ← z64_sub]
  congr 1
  have := Int.tmod_add_tdiv_mul a b
  omega
theorem g_idiv {a b : Int} (hd : decode Y.2.1 pc = .ok (.idiv, 1)) (ha : zin a) (hb : zin b) (h : 0 < b) (k : zG K d Y (pc + 1) L (zI (a.tdiv b) :: st) mu Q) : zG K d Y pc L (zI b :: zI a :: st) mu Q := by
  intro p l e s m args below meth c D cy al C H locs ls hP hS hL
  refine lv_idiv C.1 C.2.1 hd (z32_ne hb h) ?_
  rw [z32_div ha hb h]
  exact k p l e s m args below meth c D cy al C H locs ls hP hS hL
theorem g_irem {a b : Int} (hd : decode Y.2.1 pc = .ok (.irem, 1)) (ha : zin a) (hb : zin b) (h : 0 < b) (k : zG K d Y (pc + 1) L (zI (a.tmod b) :: st) mu Q) : zG K d Y pc L (zI b :: zI a :: st) mu Q := by
  intro p l e s m args below meth c D cy al C H locs ls hP hS hL
  refine lv_irem C.1 C.2.1 hd (z32_ne hb h) ?_
  rw [z32_rem ha hb h]
  exact k p l e s m args below meth c D cy al C H locs ls hP hS hL
theorem g_ldiv {a b : Int} (hd : decode Y.2.1 pc = .ok (.ldiv, 1)) (ha : zil a) (hb : zil b) (h : 0 < b) (k : zG K d Y (pc + 1) L (zJ (a.tdiv b) :: st) mu Q) : zG K d Y pc L (zJ b :: zJ a :: st) mu Q := by
  intro p l e s m args below meth c D cy al C H locs ls hP hS hL
  refine lv_ldiv C.1 C.2.1 hd (z64_ne hb h) ?_
  rw [z64_div ha hb h]
  exact k p l e s m args below meth c D cy al C H locs ls hP hS hL
theorem g_lrem {a b : Int} (hd : decode Y.2.1 pc = .ok (.lrem, 1)) (ha : zil a) (hb : zil b) (h : 0 < b) (k : zG K d Y (pc + 1) L (zJ (a.tmod b) :: st) mu Q) : zG K d Y pc L (zJ b :: zJ a :: st) mu Q := by
  intro p l e s m args below meth c D cy al C H locs ls hP hS hL
  refine lv_lrem C.1 C.2.1 hd (z64_ne hb h) ?_
  rw [z64_rem ha hb h]
  exact k p l e s m args below meth c D cy al C H locs ls hP hS hL
theorem z32_l {a : Int} (ha : zin a) : (z32 a).toInt64 = z64 a := by
  apply Int64.toInt_inj.mp
  rw [Int32.toInt_toInt64, z32_toInt ha, z64_toInt ⟨by have := ha.1; omega, by have := ha.2; omega⟩]
theorem z64_i (a : Int) : (z64 a).toInt32 = z32 a := by
  unfold z64 z32
  apply Int32.toInt_inj.mp
  have h1 : (Int64.ofInt a).toInt = a.bmod (2 ^ 64) := Int64.toInt_ofInt ..
  have h2 : (Int32.ofInt a).toInt = a.bmod (2 ^ 32) := Int32.toInt_ofInt ..
  rw [Int64.toInt_toInt32, h1, h2]
  exact Int.bmod_bmod_of_dvd (show 2 ^ 32 ∣ 2 ^ 64 by decide)
theorem z32_b (a : Int) : (z32 a).toInt8.toInt32 = z32 (a.bmod 256) := by
  apply Int32.toInt_inj.mp
  have h1 := Int.le_bmod (x := a) (m := 256) (by decide)
  have h2 := Int.bmod_lt (x := a) (m := 256) (by decide)
  have h3 : (z32 a).toInt = a.bmod (2 ^ 32) := Int32.toInt_ofInt ..
  rw [Int8.toInt_toInt32, Int32.toInt_toInt8, z32_toInt (x := a.bmod 256) ⟨by omega, by omega⟩, h3]
  exact Int.bmod_bmod_of_dvd (show 2 ^ 8 ∣ 2 ^ 32 by decide)
theorem g_i2l {a : Int} (hd : decode Y.2.1 pc = .ok (.i2l, 1)) (ha : zin a) (k : zG K d Y (pc + 1) L (zJ a :: st) mu Q) : zG K d Y pc L (zI a :: st) mu Q := by
  intro p l e s m args below meth c D cy al C H locs ls hP hS hL
  exact lv_i2l C.1 C.2.1 hd (z32_l ha) (k p l e s m args below meth c D cy al C H locs ls hP hS hL)
theorem g_l2i {a : Int} (hd : decode Y.2.1 pc = .ok (.l2i, 1)) (k : zG K d Y (pc + 1) L (zI a :: st) mu Q) : zG K d Y pc L (zJ a :: st) mu Q := by
  intro p l e s m args below meth c D cy al C H locs ls hP hS hL
  exact lv_l2i C.1 C.2.1 hd (z64_i a) (k p l e s m args below meth c D cy al C H locs ls hP hS hL)
theorem g_i2b {a : Int} (hd : decode Y.2.1 pc = .ok (.i2b, 1)) (k : zG K d Y (pc + 1) L (zI (a.bmod 256) :: st) mu Q) : zG K d Y pc L (zI a :: st) mu Q := by
  intro p l e s m args below meth c D cy al C H locs ls hP hS hL
  exact lv_i2b C.1 C.2.1 hd (z32_b a) (k p l e s m args below meth c D cy al C H locs ls hP hS hL)
theorem g_dup {v : AV} (hd : decode Y.2.1 pc = .ok (.dup, 1)) (hv : ¬ v.1 = 1) (k : zG K d Y (pc + 1) L (v :: v :: st) mu Q) : zG K d Y pc L (v :: st) mu Q := by
  intro p l e s m args below meth c D cy al C H locs ls hP hS hL
  exact lv_dup C.1 C.2.1 hd (by rw [zcat, if_neg hv]) (k p l e s m args below meth c D cy al C H locs ls hP hS hL)
theorem g_pop {v : AV} (hd : decode Y.2.1 pc = .ok (.pop, 1)) (hv : ¬ v.1 = 1) (k : zG K d Y (pc + 1) L st mu Q) : zG K d Y pc L (v :: st) mu Q := by
  intro p l e s m args below meth c D cy al C H locs ls hP hS hL
  exact lv_pop C.1 C.2.1 hd (by rw [zcat, if_neg hv]) (k p l e s m args below meth c D cy al C H locs ls hP hS hL)
theorem g_dup2 {v w : AV} (hd : decode Y.2.1 pc = .ok (.dup2, 1)) (hv : ¬ v.1 = 1) (hw : ¬ w.1 = 1) (k : zG K d Y (pc + 1) L (v :: w :: v :: w :: st) mu Q) : zG K d Y pc L (v :: w :: st) mu Q := by
  intro p l e s m args below meth c D cy al C H locs ls hP hS hL
  exact lv_dup2_11 C.1 C.2.1 hd (by rw [zcat, if_neg hv]) (by rw [zcat, if_neg hw]) (k p l e s m args below meth c D cy al C H locs ls hP hS hL)
theorem g_goto {off : Int} {tgt : Nat} (hd : decode Y.2.1 pc = .ok (.goto off, 3)) (ht : (pc : Int) + off = (tgt : Int)) (k : zG K d Y tgt L st mu Q) : zG K d Y pc L st mu Q := by
  intro p l e s m args below meth c D cy al C H locs ls hP hS hL
  exact lv_goto C.1 C.2.1 hd ht (k p l e s m args below meth c D cy al C H locs ls hP hS hL)
theorem g_if_eq {x off : Int} {tgt : Nat} (hd : decode Y.2.1 pc = .ok (.ifCond .eq off, 3)) (ht : (pc : Int) + off = (tgt : Int)) (hx : zin x) (kt : x = 0 → zG K d Y tgt L st mu Q) (kf : ¬ x = 0 → zG K d Y (pc + 3) L st mu Q) : zG K d Y pc L (zI x :: st) mu Q := by
  intro p l e s m args below meth c D cy al C H locs ls hP hS hL
  exact lv_if_eq C.1 C.2.1 hd ht (fun h => kt ((z32_eq hx zin_0).mp h) p l e s m args below meth c D cy al C H locs ls hP hS hL) (fun h => kf (fun q => h ((z32_eq hx zin_0).mpr q)) p l e s m args below meth c D cy al C H locs ls hP hS hL)
theorem g_icmp_eq {a b off : Int} {tgt : Nat} (hd : decode Y.2.1 pc = .ok (.if_icmp .eq off, 3)) (ht : (pc : Int) + off = (tgt : Int)) (ha : zin a) (hb : zin b) (kt : a = b → zG K d Y tgt L st mu Q) (kf : ¬ a = b → zG K d Y (pc + 3) L st mu Q) : zG K d Y pc L (zI b :: zI a :: st) mu Q := by
  intro p l e s m args below meth c D cy al C H locs ls hP hS hL
  exact lv_icmp_eq C.1 C.2.1 hd ht (fun h => kt ((z32_eq ha hb).mp h) p l e s m args below meth c D cy al C H locs ls hP hS hL) (fun h => kf (fun q => h ((z32_eq ha hb).mpr q)) p l e s m args below meth c D cy al C H locs ls hP hS hL)
theorem g_if_ne {x off : Int} {tgt : Nat} (hd : decode Y.2.1 pc = .ok (.ifCond .ne off, 3)) (ht : (pc : Int) + off = (tgt : Int)) (hx : zin x) (kt : ¬ x = 0 → zG K d Y tgt L st mu Q) (kf : x = 0 → zG K d Y (pc + 3) L st mu Q) : zG K d Y pc L (zI x :: st) mu Q := by
  intro p l e s m args below meth c D cy al C H locs ls hP hS hL
  exact lv_if_ne C.1 C.2.1 hd ht (fun h => kt (fun q => h ((z32_eq hx zin_0).mpr q)) p l e s m args below meth c D cy al C H locs ls hP hS hL) (fun h => kf ((z32_eq hx zin_0).mp h) p l e s m args below meth c D cy al C H locs ls hP hS hL)
theorem g_icmp_ne {a b off : Int} {tgt : Nat} (hd : decode Y.2.1 pc = .ok (.if_icmp .ne off, 3)) (ht : (pc : Int) + off = (tgt : Int)) (ha : zin a) (hb : zin b) (kt : ¬ a = b → zG K d Y tgt L st mu Q) (kf : a = b → zG K d Y (pc + 3) L st mu Q) : zG K d Y pc L (zI b :: zI a :: st) mu Q := by
  intro p l e s m args below meth c D cy al C H locs ls hP hS hL
  exact lv_icmp_ne C.1 C.2.1 hd ht (fun h => kt (fun q => h ((z32_eq ha hb).mpr q)) p l e s m args below meth c D cy al C H locs ls hP hS hL) (fun h => kf ((z32_eq ha hb).mp h) p l e s m args below meth c D cy al C H locs ls hP hS hL)
theorem g_if_lt {x off : Int} {tgt : Nat} (hd : decode Y.2.1 pc = .ok (.ifCond .lt off, 3)) (ht : (pc : Int) + off = (tgt : Int)) (hx : zin x) (kt : x < 0 → zG K d Y tgt L st mu Q) (kf : ¬ x < 0 → zG K d Y (pc + 3) L st mu Q) : zG K d Y pc L (zI x :: st) mu Q := by
  intro p l e s m args below meth c D cy al C H locs ls hP hS hL
  exact lv_if_lt C.1 C.2.1 hd ht (fun h => kt ((z32_lt hx zin_0).mp h) p l e s m args below meth c D cy al C H locs ls hP hS hL) (fun h => kf (fun q => h ((z32_lt hx zin_0).mpr q)) p l e s m args below meth c D cy al C H locs ls hP hS hL)
theorem g_icmp_lt {a b off : Int} {tgt : Nat} (hd : decode Y.2.1 pc = .ok (.if_icmp .lt off, 3)) (ht : (pc : Int) + off = (tgt : Int)) (ha : zin a) (hb : zin b) (kt : a < b → zG K d Y tgt L st mu Q) (kf : ¬ a < b → zG K d Y (pc + 3) L st mu Q) : zG K d Y pc L (zI b :: zI a :: st) mu Q := by
  intro p l e s m args below meth c D cy al C H locs ls hP hS hL
  exact lv_icmp_lt C.1 C.2.1 hd ht (fun h => kt ((z32_lt ha hb).mp h) p l e s m args below meth c D cy al C H locs ls hP hS hL) (fun h => kf (fun q => h ((z32_lt ha hb).mpr q)) p l e s m args below meth c D cy al C H locs ls hP hS hL)
theorem g_if_ge {x off : Int} {tgt : Nat} (hd : decode Y.2.1 pc = .ok (.ifCond .ge off, 3)) (ht : (pc : Int) + off = (tgt : Int)) (hx : zin x) (kt : 0 ≤ x → zG K d Y tgt L st mu Q) (kf : ¬ 0 ≤ x → zG K d Y (pc + 3) L st mu Q) : zG K d Y pc L (zI x :: st) mu Q := by
  intro p l e s m args below meth c D cy al C H locs ls hP hS hL
  exact lv_if_ge C.1 C.2.1 hd ht (fun h => kt ((z32_le zin_0 hx).mp h) p l e s m args below meth c D cy al C H locs ls hP hS hL) (fun h => kf (fun q => h ((z32_le zin_0 hx).mpr q)) p l e s m args below meth c D cy al C H locs ls hP hS hL)
theorem g_icmp_ge {a b off : Int} {tgt : Nat} (hd : decode Y.2.1 pc = .ok (.if_icmp .ge off, 3)) (ht : (pc : Int) + off = (tgt : Int)) (ha : zin a) (hb : zin b) (kt : b ≤ a → zG K d Y tgt L st mu Q) (kf : ¬ b ≤ a → zG K d Y (pc + 3) L st mu Q) : zG K d Y pc L (zI b :: zI a :: st) mu Q := by
  intro p l e s m args below meth c D cy al C H locs ls hP hS hL
  exact lv_icmp_ge C.1 C.2.1 hd ht (fun h => kt ((z32_le hb ha).mp h) p l e s m args below meth c D cy al C H locs ls hP hS hL) (fun h => kf (fun q => h ((z32_le hb ha).mpr q)) p l e s m args below meth c D cy al C H locs ls hP hS hL)
theorem g_if_gt {x off : Int} {tgt : Nat} (hd : decode Y.2.1 pc = .ok (.ifCond .gt off, 3)) (ht : (pc : Int) + off = (tgt : Int)) (hx : zin x) (kt : 0 < x → zG K d Y tgt L st mu Q) (kf : ¬ 0 < x → zG K d Y (pc + 3) L st mu Q) : zG K d Y pc L (zI x :: st) mu Q := by
  intro p l e s m args below meth c D cy al C H locs ls hP hS hL
  exact lv_if_gt C.1 C.2.1 hd ht (fun h => kt ((z32_lt zin_0 hx).mp h) p l e s m args below meth c D cy al C H locs ls hP hS hL) (fun h => kf (fun q => h ((z32_lt zin_0 hx).mpr q)) p l e s m args below meth c D cy al C H locs ls hP hS hL)
theorem g_icmp_gt {a b off : Int} {tgt : Nat} (hd : decode Y.2.1 pc = .ok (.if_icmp .gt off, 3)) (ht : (pc : Int) + off = (tgt : Int)) (ha : zin a) (hb : zin b) (kt : b < a → zG K d Y tgt L st mu Q) (kf : ¬ b < a → zG K d Y (pc + 3) L st mu Q) : zG K d Y pc L (zI b :: zI a :: st) mu Q := by
  intro p l e s m args below meth c D cy al C H locs ls hP hS hL
  exact lv_icmp_gt C.1 C.2.1 hd ht (fun h => kt ((z32_lt hb ha).mp h) p l e s m args below meth c D cy al C H locs ls hP hS hL) (fun h => kf (fun q => h ((z32_lt hb ha).mpr q)) p l e s m args below meth c D cy al C H locs ls hP hS hL)
theorem g_if_le {x off : Int} {tgt : Nat} (hd : decode Y.2.1 pc = .ok (.ifCond .le off, 3)) (ht : (pc : Int) + off = (tgt : Int)) (hx : zin x) (kt : x ≤ 0 → zG K d Y tgt L st mu Q) (kf : ¬ x ≤ 0 → zG K d Y (pc + 3) L st mu Q) : zG K d Y pc L (zI x :: st) mu Q := by
  intro p l e s m args below meth c D cy al C H locs ls hP hS hL
  exact lv_if_le C.1 C.2.1 hd ht (fun h => kt ((z32_le hx zin_0).mp h) p l e s m args below meth c D cy al C H locs ls hP hS hL) (fun h => kf (fun q => h ((z32_le hx zin_0).mpr q)) p l e s m args below meth c D cy al C H locs ls hP hS hL)
theorem g_icmp_le {a b off : Int} {tgt : Nat} (hd : decode Y.2.1 pc = .ok (.if_icmp .le off, 3)) (ht : (pc : Int) + off = (tgt : Int)) (ha : zin a) (hb : zin b) (kt : a ≤ b → zG K d Y tgt L st mu Q) (kf : ¬ a ≤ b → zG K d Y (pc + 3) L st mu Q) : zG K d Y pc L (zI b :: zI a :: st) mu Q := by
  intro p l e s m args below meth c D cy al C H locs ls hP hS hL
  exact lv_icmp_le C.1 C.2.1 hd ht (fun h => kt ((z32_le ha hb).mp h) p l e s m args below meth c D cy al C H locs ls hP hS hL) (fun h => kf (fun q => h ((z32_le ha hb).mpr q)) p l e s m args below meth c D cy al C H locs ls hP hS hL)
def zlc (a b : Int) : Int := if a < b then -1 else if a = b then 0 else 1
theorem zlc_in (a b : Int) : zin (zlc a b) := by
  unfold zlc
  split
  · exact ⟨by omega, by omega⟩
  · split
    · exact ⟨by omega, by omega⟩
    · exact ⟨by omega, by omega⟩
theorem z64_cmp {a b : Int} (ha : zil a) (hb : zil b) : lg_cmp (z64 a) (z64 b) = z32 (zlc a b) := by
  unfold lg_cmp zlc
  simp only [z64_lt ha hb, z64_eq ha hb, GT.gt, z64_lt hb ha]
  repeat' split
  all_goals first | rfl | omega
theorem g_lcmp {a b : Int} (hd : decode Y.2.1 pc = .ok (.lcmp, 1)) (ha : zil a) (hb : zil b) (k : zG K d Y (pc + 1) L (zI (zlc a b) :: st) mu Q) : zG K d Y pc L (zJ b :: zJ a :: st) mu Q := by
  intro p l e s m args below meth c D cy al C H locs ls hP hS hL
  refine W.lcmp C.1 C.2.1 hd ?_
  rw [z64_cmp ha hb]
  exact k p l e s m args below meth c D cy al C H locs ls hP hS hL
theorem zlc_lt (a b : Int) : zlc a b < 0 ↔ a < b := by unfold zlc; repeat' split
                                                       all_goals omega
theorem zlc_eq (a b : Int) : zlc a b = 0 ↔ a = b := by unfold zlc; repeat' split
                                                       all_goals omega
theorem zlc_ge (a b : Int) : 0 ≤ zlc a b ↔ b ≤ a := by unfold zlc; repeat' split
                                                       all_goals omega
theorem zlc_gt (a b : Int) : 0 < zlc a b ↔ b < a := by unfold zlc; repeat' split
                                                       all_goals omega
theorem zlc_le (a b : Int) : zlc a b ≤ 0 ↔ a ≤ b := by unfold zlc; repeat' split
                                                       all_goals omega
theorem g_lcmp_eq {a b off : Int} {tgt : Nat} (hd : decode Y.2.1 pc = .ok (.lcmp, 1)) (hd2 : decode Y.2.1 (pc + 1) = .ok (.ifCond .eq off, 3)) (ht : ((pc + 1 : Nat) : Int) + off = (tgt : Int)) (ha : zil a) (hb : zil b) (kt : a = b → zG K d Y tgt L st mu Q) (kf : ¬ a = b → zG K d Y (pc + 4) L st mu Q) : zG K d Y pc L (zJ b :: zJ a :: st) mu Q :=
  g_lcmp hd ha hb (g_if_eq hd2 ht (zlc_in a b) (fun h => kt ((zlc_eq a b).mp h)) (fun h => kf (fun q => h ((zlc_eq a b).mpr q))))
theorem g_lcmp_ne {a b off : Int} {tgt : Nat} (hd : decode Y.2.1 pc = .ok (.lcmp, 1)) (hd2 : decode Y.2.1 (pc + 1) = .ok (.ifCond .ne off, 3)) (ht : ((pc + 1 : Nat) : Int) + off = (tgt : Int)) (ha : zil a) (hb : zil b) (kt : ¬ a = b → zG K d Y tgt L st mu Q) (kf : a = b → zG K d Y (pc + 4) L st mu Q) : zG K d Y pc L (zJ b :: zJ a :: st) mu Q :=
  g_lcmp hd ha hb (g_if_ne hd2 ht (zlc_in a b) (fun h => kt (fun q => h ((zlc_eq a b).mpr q))) (fun h => kf ((zlc_eq a b).mp h)))
theorem g_lcmp_lt {a b off : Int} {tgt : Nat} (hd : decode Y.2.1 pc = .ok (.lcmp, 1)) (hd2 : decode Y.2.1 (pc + 1) = .ok (.ifCond .lt off, 3)) (ht : ((pc + 1 : Nat) : Int) + off = (tgt : Int)) (ha : zil a) (hb : zil b) (kt : a < b → zG K d Y tgt L st mu Q) (kf : ¬ a < b → zG K d Y (pc + 4) L st mu Q) : zG K d Y pc L (zJ b :: zJ a :: st) mu Q :=
  g_lcmp hd ha hb (g_if_lt hd2 ht (zlc_in a b) (fun h => kt ((zlc_lt a b).mp h)) (fun h => kf (fun q => h ((zlc_lt a b).mpr q))))
theorem g_lcmp_ge {a b off : Int} {tgt : Nat} (hd : decode Y.2.1 pc = .ok (.lcmp, 1)) (hd2 : decode Y.2.1 (pc + 1) = .ok (.ifCond .ge off, 3)) (ht : ((pc + 1 : Nat) : Int) + off = (tgt : Int)) (ha : zil a) (hb : zil b) (kt : b ≤ a → zG K d Y tgt L st mu Q) (kf : ¬ b ≤ a → zG K d Y (pc + 4) L st mu Q) : zG K d Y pc L (zJ b :: zJ a :: st) mu Q :=
  g_lcmp hd ha hb (g_if_ge hd2 ht (zlc_in a b) (fun h => kt ((zlc_ge a b).mp h)) (fun h => kf (fun q => h ((zlc_ge a b).mpr q))))
theorem g_lcmp_gt {a b off : Int} {tgt : Nat} (hd : decode Y.2.1 pc = .ok (.lcmp, 1)) (hd2 : decode Y.2.1 (pc + 1) = .ok (.ifCond .gt off, 3)) (ht : ((pc + 1 : Nat) : Int) + off = (tgt : Int)) (ha : zil a) (hb : zil b) (kt : b < a → zG K d Y tgt L st mu Q) (kf : ¬ b < a → zG K d Y (pc + 4) L st mu Q) : zG K d Y pc L (zJ b :: zJ a :: st) mu Q :=
  g_lcmp hd ha hb (g_if_gt hd2 ht (zlc_in a b) (fun h => kt ((zlc_gt a b).mp h)) (fun h => kf (fun q => h ((zlc_gt a b).mpr q))))
theorem g_lcmp_le {a b off : Int} {tgt : Nat} (hd : decode Y.2.1 pc = .ok (.lcmp, 1)) (hd2 : decode Y.2.1 (pc + 1) = .ok (.ifCond .le off, 3)) (ht : ((pc + 1 : Nat) : Int) + off = (tgt : Int)) (ha : zil a) (hb : zil b) (kt : a ≤ b → zG K d Y tgt L st mu Q) (kf : ¬ a ≤ b → zG K d Y (pc + 4) L st mu Q) : zG K d Y pc L (zJ b :: zJ a :: st) mu Q :=
  g_lcmp hd ha hb (g_if_le hd2 ht (zlc_in a b) (fun h => kt ((zlc_le a b).mp h)) (fun h => kf (fun q => h ((zlc_le a b).mpr q))))
theorem g_swIn {x dflt lo hi off : Int} {offs : Array Int} {len tgt : Nat} (hd : decode Y.2.1 pc = .ok (.tableswitch dflt lo hi offs, len)) (hx : zin x) (h1 : lo ≤ x) (h2 : x ≤ hi) (ho : offs[(x - lo).toNat]? = some off) (ht : (pc : Int) + off = (tgt : Int)) (k : zG K d Y tgt L st mu Q) : zG K d Y pc L (zI x :: st) mu Q := by
  intro p l e s m args below meth c D cy al C H locs ls hP hS hL
  exact lv_tableIn C.1 C.2.1 hd (by rw [z32_toInt hx]; omega) (by rw [z32_toInt hx]; omega) (by rw [z32_toInt hx]; exact ho) ht (k p l e s m args below meth c D cy al C H locs ls hP hS hL)
theorem g_swOut {x dflt lo hi : Int} {offs : Array Int} {len tgt : Nat} (hd : decode Y.2.1 pc = .ok (.tableswitch dflt lo hi offs, len)) (hx : zin x) (h : x < lo ∨ hi < x) (ht : (pc : Int) + dflt = (tgt : Int)) (k : zG K d Y tgt L st mu Q) : zG K d Y pc L (zI x :: st) mu Q := by
  intro p l e s m args below meth c D cy al C H locs ls hP hS hL
  exact lv_tableOut C.1 C.2.1 hd (by rw [z32_toInt hx]; exact h) ht (k p l e s m args below meth c D cy al C H locs ls hP hS hL)
theorem g_ireturn {x : Int} (hd : decode Y.2.1 pc = .ok (.ireturn, 1)) (hr : Y.2.2.2 = some .int) (k : Q (zI x) mu) : zG K d Y pc L [zI x] mu Q := by
  intro p l e s m args below meth c D cy al C H locs ls hP hS hL
  exact W.iret C.1 C.2.1 (C.2.2.2.1.trans hr) (fun t ht hW => ⟨⟨zI x, mu, rfl, k, by rw [ht]; exact hP⟩, hS.F ht⟩) hS.2.2 hd C.2.2.2.2.2.2.1
theorem g_zreturn {x : Int} (hd : decode Y.2.1 pc = .ok (.ireturn, 1)) (hr : Y.2.2.2 = some .boolean) (hx : x = 0 ∨ x = 1) (k : Q (zI x) mu) : zG K d Y pc L [zI x] mu Q := by
  intro p l e s m args below meth c D cy al C H locs ls hP hS hL
  exact W.zret C.1 C.2.1 (C.2.2.2.1.trans hr) (by rcases hx with rfl | rfl <;> rfl) (fun t ht hW => ⟨⟨zI x, mu, rfl, k, by rw [ht]; exact hP⟩, hS.F ht⟩) hS.2.2 hd C.2.2.2.2.2.2.1
theorem g_lreturn {x : Int} (hd : decode Y.2.1 pc = .ok (.lreturn, 1)) (hr : Y.2.2.2 = some .long) (k : Q (zJ x) mu) : zG K d Y pc L [zJ x] mu Q := by
  intro p l e s m args below meth c D cy al C H locs ls hP hS hL
  exact W.lret C.1 C.2.1 (C.2.2.2.1.trans hr) (fun t ht hW => ⟨⟨zJ x, mu, rfl, k, by rw [ht]; exact hP⟩, hS.F ht⟩) hS.2.2 hd C.2.2.2.2.2.2.1
theorem g_return (hd : decode Y.2.1 pc = .ok (.return_, 1)) (hr : Y.2.2.2 = none) (k : Q zV mu) : zG K d Y pc L [] mu Q := by
  intro p l e s m args below meth c D cy al C H locs ls hP hS hL
  exact W.vret C.1 C.2.1 (C.2.2.2.1.trans hr) (fun t ht hW => ⟨⟨zV, mu, rfl, k, by rw [ht]; exact hP⟩, hS.F ht⟩) hS.2.2 hd C.2.2.2.2.2.2.1
end ZR
