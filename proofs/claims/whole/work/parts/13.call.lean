/-! rules: calls and the entry -/
section ZC
variable {K d : Nat} {Y : MI} {pc : Nat} {L st : List AV} {mu : Mem} {Q : AV → Mem → Prop}
theorem z32_max {a b : Int} (ha : zin a) (hb : zin b) : (if z32 a < z32 b then z32 b else z32 a) = z32 (max a b) := by
  by_cases h : a < b
  · rw [if_pos ((z32_lt ha hb).mpr h), Int.max_eq_right (by omega)]
  · rw [if_neg (fun q => h ((z32_lt ha hb).mp q)), Int.max_eq_left (by omega)]
theorem z32_min {a b : Int} (ha : zin a) (hb : zin b) : (if z32 b < z32 a then z32 b else z32 a) = z32 (min a b) := by
  by_cases h : b < a
  · rw [if_pos ((z32_lt hb ha).mpr h), Int.min_eq_right (by omega)]
  · rw [if_neg (fun q => h ((z32_lt hb ha).mp q)), Int.min_eq_left (by omega)]
theorem z64_max {a b : Int} (ha : zil a) (hb : zil b) : (if z64 b < z64 a then z64 a else z64 b) = z64 (max a b) := by
  by_cases h : b < a
  · rw [if_pos ((z64_lt hb ha).mpr h), Int.max_eq_left (by omega)]
  · rw [if_neg (fun q => h ((z64_lt hb ha).mp q)), Int.max_eq_right (by omega)]
def zw (v : AV) : Nat := if v.1 = 1 then 2 else 1
theorem zw_sum (al : Nat → Nat) (r : List AV) : ((r.map (zcv al)).map fun v => v.category).sum = (r.map zw).sum := by
  rw [List.map_map]
  congr 1
  apply List.map_congr_left
  intro v _
  exact zcat
theorem g_max {idx : Nat} {a b : Int} (hd : decode Y.2.1 pc = .ok (.invokestatic idx, 3)) (hl : Cond.methodLink Y.1.cls idx Lib.Math.max.name ∈ zTB) (hdep : 1 ≤ d) (hr : (st.map zw).sum ≤ 8) (ha : zin a) (hb : zin b) (k : zG K d Y (pc + 3) L (zI (max a b) :: st) mu Q) : zG K d Y pc L (zI b :: zI a :: st) mu Q := by
  intro p l e s m args below meth c D cy al C H locs ls hP hS hL
  refine va_mmax C.1 C.2.1 (C.2.2.1.trans hL.1.symm) C.2.2.2.2.1 (C.2.2.2.2.2.1 _ (List.mem_cons_of_mem _ hl)) (C.2.2.2.2.2.1 _ (List.mem_cons_of_mem _ zw_max_s)) (C.2.2.2.2.2.1 _ (List.mem_cons_of_mem _ zw_math)) (C.2.2.2.2.2.1 _ (List.mem_cons_of_mem _ zw_max_c)) hdep ?_ (Nat.le_refl _) (Nat.le_refl _) hd ?_
  · rw [zw_sum]
    show _ ≤ 100 * d
    omega
  · rw [z32_max ha hb]
    exact k p l e s m args below meth c D cy al C H locs ls hP hS hL
theorem g_min {idx : Nat} {a b : Int} (hd : decode Y.2.1 pc = .ok (.invokestatic idx, 3)) (hl : Cond.methodLink Y.1.cls idx Lib.Math.min.name ∈ zTB) (hdep : 1 ≤ d) (hr : (st.map zw).sum ≤ 8) (ha : zin a) (hb : zin b) (k : zG K d Y (pc + 3) L (zI (min a b) :: st) mu Q) : zG K d Y pc L (zI b :: zI a :: st) mu Q := by
  intro p l e s m args below meth c D cy al C H locs ls hP hS hL
  refine va_mmin C.1 C.2.1 (C.2.2.1.trans hL.1.symm) C.2.2.2.2.1 (C.2.2.2.2.2.1 _ (List.mem_cons_of_mem _ hl)) (C.2.2.2.2.2.1 _ (List.mem_cons_of_mem _ zw_min_s)) (C.2.2.2.2.2.1 _ (List.mem_cons_of_mem _ zw_math)) (C.2.2.2.2.2.1 _ (List.mem_cons_of_mem _ zw_min_c)) hdep ?_ (Nat.le_refl _) (Nat.le_refl _) hd ?_
  · rw [zw_sum]
    show _ ≤ 100 * d
    omega
  · rw [z32_min ha hb]
    exact k p l e s m args below meth c D cy al C H locs ls hP hS hL
theorem g_maxl {idx : Nat} {a b : Int} (hd : decode Y.2.1 pc = .ok (.invokestatic idx, 3)) (hl : Cond.methodLink Y.1.cls idx Lib.MathLoose.max_long.x ∈ zTB) (hdep : 1 ≤ d) (hr : (st.map zw).sum ≤ 8) (ha : zil a) (hb : zil b) (k : zG K d Y (pc + 3) L (zJ (max a b) :: st) mu Q) : zG K d Y pc L (zJ b :: zJ a :: st) mu Q := by
  intro p l e s m args below meth c D cy al C H locs ls hP hS hL
  refine va_mmax_long C.1 C.2.1 (C.2.2.1.trans hL.1.symm) C.2.2.2.2.1 (C.2.2.2.2.2.1 _ (List.mem_cons_of_mem _ hl)) (C.2.2.2.2.2.1 _ (List.mem_cons_of_mem _ zw_maxl_s)) (C.2.2.2.2.2.1 _ (List.mem_cons_of_mem _ zw_math)) (C.2.2.2.2.2.1 _ (List.mem_cons_of_mem _ zw_maxl_c)) hdep ?_ (Nat.le_refl _) (Nat.le_refl _) hd ?_
  · rw [zw_sum]
    show _ ≤ 100 * d
    omega
  · have := k p l e s m args below meth c D cy al C H locs ls hP hS hL
    have e1 : zcv al (zJ (max a b)) = Value.long (if z64 b < z64 a then z64 a else z64 b) := by rw [z64_max ha hb]; rfl
    rw [List.map_cons, e1] at this
    exact this
/-- behind any call -/
theorem zcall {p : Program} {l : Launch} {e : Env} {s : State} {m : MethodId} {args : Array Value} {below : List Frame} {meth : Method} {c : Code} {D : va_G} {cy : Nat → ClassId} {al : Nat → Nat} (C : zCx K Y p s m args meth c D cy al) {H : Heap} {locs : List Loc} {ls : Array Slot} (hS : va_S (zA K al s.heap.size) s.heap H locs) (hL : zok al L Y.2.2.1 ls) {st0 : List Value} {rest : List AV} {a : Array Value}
    (hr : va_Run p l e (zrm d) s m args below meth c H locs 0 0 0 0 (F0 m pc ls st0) (rest.map (zcv al)) (zQ K D cy al H.size (fun v mu' => zG K d Y (pc + 3) L (zps v rest) mu' Q) a) (zA K al H.size)) :
    W p l e (zrm d) s m args below meth c H locs 0 0 (MQ below (zQ K D cy al s.heap.size Q) args s 0 0 (zA K al s.heap.size)) (F0 m pc ls st0) := by
  intro T hT X
  obtain ⟨v, st₀, t, T', L', h0, X', hL', e1, e2, ⟨⟨w, mu', hv, hq, hp⟩, hz, hk⟩, st⟩ := hr T hT X
  have hv : v = zrv al w := by injection hv
  subst hv
  rw [h0] at hz hk
  have hA : ∀ q : Nat, q < H.size → zA K al H.size q → zA K al s.heap.size q := fun q hq h => by
    rcases h with h | h
    · exact Or.inl h
    · omega
  have hA2 : ∀ q : Nat, zA K al H.size q → zA K al s.heap.size q := fun q h => by
    rcases h with h | h
    · exact Or.inl h
    · exact Or.inr (Nat.le_trans hS.1 h)
  have hS' : va_S (zA K al s.heap.size) s.heap T'.heap (locs ++ L') := ⟨Nat.le_trans hS.1 (by rw [e1]; exact hz), fun q h1 h2 => by rw [e1, hk q (Nat.lt_of_lt_of_le h1 hS.1) (fun z => h2 (hA q (Nat.lt_of_lt_of_le h1 hS.1) z))]; exact hS.2.1 q h1 h2, fun q hq => by
      rcases List.mem_append.mp hq with h | h
      · exact hS.2.2 q h
      · exact hA2 _ (hL' q h)⟩
  obtain ⟨t2, a1, b1⟩ := hq p l e s m args below meth c D cy al C T'.heap (locs ++ L') ls (by rw [e1]; exact hp) hS' hL T' rfl X'
  refine ⟨t2, st t2 ?_, b1⟩
  have hg : F0 m (pc + 3) ls ((zps w rest).map (zcv al)) = { F0 m pc ls st0 with pc := (F0 m pc ls st0).pc + 3, stack := (zrv al w).toList ++ rest.map (zcv al) } := by
    unfold zps zrv
    by_cases hw : w.1 = 3
    · rw [if_pos hw, if_pos hw]
      rfl
    · rw [if_neg hw, if_neg hw]
      rfl
  rw [← hg]
  exact a1
theorem zblind {av : List AV} {D : va_G} {cy : Nat → ClassId} {al : Nat → Nat} {sz : Nat} : FrameBlind (va_Pc (av.map (zcv al)) (fun U => U.heap.size = sz ∧ va_P D vwCl (zwl K al cy mu) U.heap ∧ zKK D cy U)) :=
  fun _ U g mk q => ⟨q.1, q.2.1, q.2.2.1, zKK.same (s := U) rfl q.2.2.2⟩
theorem zgin {Y' : MI} (h : Cond.code Y'.1 Y'.2.1 Y'.2.2.1 Y'.2.2.2 ∈ zTB) : GoodIn (zws Y) (zws Y') := by
  have hz : ∀ w ∈ zTB, w ∈ zws Y ∧ ((w.onTables && w.keeps) = true ∨ ∃ ty, w = .arrayClass ty) := fun w hw => ⟨List.mem_cons_of_mem _ hw, good_of_word (List.mem_filter.mp hw).2⟩
  intro w hw
  rcases List.mem_cons.mp hw with rfl | hw
  · exact hz _ h
  · exact hz w hw
theorem g_callV {d' idx n ci : Nat} {Y' : MI} {As rest : List AV} {k : Int} (hd : decode Y.2.1 pc = .ok (.invokevirtual idx, 3)) (hl : Cond.methodLink Y.1.cls idx Y'.1 ∈ zTB) (hm : zMV Y' n) (hdep : d' + 1 ≤ d) (ho : zOb K ci k) (hc : vwCl[ci]?.map (fun q => q.1) = some Y'.1.cls) (hn : As.length = n) (hr : (rest.map zw).sum ≤ 8) (hst : st = As.reverse ++ zR k :: rest)
    (hC : zC K d' Y' (zR k :: As) mu (fun v mu' => zG K d Y (pc + 3) L (zps v rest) mu' Q)) : zG K d Y pc L st mu Q := by
  intro p l e s m args below meth c D cy al C H locs ls hP hS hL
  obtain ⟨m1, m2, m3, m4, m5, m6, m7⟩ := hm
  have hw : ∀ w ∈ zTB, w.before args s = true := fun w h => C.2.2.2.2.2.1 w (List.mem_cons_of_mem _ h)
  cases hcl : vwCl[ci]? with
  | none => rw [hcl] at hc; cases hc
  | some q =>
    rw [hcl] at hc
    have hc : q.1 = Y'.1.cls := Option.some.inj hc
    have hrv := va_recv C.2.2.2.2.2.2.2.1.1 hP hcl (ho.cell (al := al) (cy := cy) (mu := mu))
    rw [hc] at hrv
    refine zcall C hS hL (rest := rest) (a := (Value.ref (al k.toNat) :: As.map (zcv al)).toArray) (va_runV (As := As.map (zcv al)) (rest := rest.map (zcv al)) (b := al k.toNat) ⟨C.1, C.2.1, C.2.2.1, C.2.2.2.2.1, C.2.2.2.2.2.1⟩ (hC l D cy al H.size C.2.2.2.2.2.2.2.2) ⟨callB_of n C.2.2.2.2.2.1 (zgin m4) rfl rfl rfl (hw _ m3) (hw _ hl) m5 ⟨hdep, ?_⟩, hw _ m1, hw _ m2⟩ ⟨zblind, hrv, fun U hU hW => ⟨rfl, by rw [hU], by rw [hU]; exact hP, C.2.2.2.2.2.2.2.1.warm hW⟩⟩ rfl (by rw [List.length_map]; exact hn) hL.1 ?_ (lv_room (by rw [zw_sum]; exact hr)) hd ⟨Nat.le_refl _, Nat.le_refl _⟩)
    · show 8 + (Y'.2.2.1 + 11) + 100 * d' ≤ 100 * d
      omega
    · show st.map (zcv al) = _
      rw [hst, List.map_append, List.map_reverse]
      rfl
theorem g_callS {d' idx n : Nat} {Y' : MI} {As rest : List AV} (hd : decode Y.2.1 pc = .ok (.invokestatic idx, 3)) (hl : Cond.methodLink Y.1.cls idx Y'.1 ∈ zTB) (hm : zMS Y' n) (hdep : d' + 1 ≤ d) (hn : As.length = n) (hr : (rest.map zw).sum ≤ 8) (hst : st = As.reverse ++ rest)
    (hC : zC K d' Y' As mu (fun v mu' => zG K d Y (pc + 3) L (zps v rest) mu' Q)) : zG K d Y pc L st mu Q := by
  intro p l e s m args below meth c D cy al C H locs ls hP hS hL
  obtain ⟨m1, m3, m4, m5, m6, m7⟩ := hm
  have hw : ∀ w ∈ zTB, w.before args s = true := fun w h => C.2.2.2.2.2.1 w (List.mem_cons_of_mem _ h)
  refine zcall C hS hL (rest := rest) (a := (As.map (zcv al)).toArray) (va_runS (As := As.map (zcv al)) (rest := rest.map (zcv al)) ⟨C.1, C.2.1, C.2.2.1, C.2.2.2.2.1, C.2.2.2.2.2.1⟩ (hC l D cy al H.size C.2.2.2.2.2.2.2.2) ⟨callB_of n C.2.2.2.2.2.1 (zgin m4) rfl rfl rfl (hw _ m3) (hw _ hl) m5 ⟨hdep, ?_⟩, hw _ m1⟩ ⟨zblind, fun U hU hW => ⟨rfl, by rw [hU], by rw [hU]; exact hP, C.2.2.2.2.2.2.2.1.warm hW⟩⟩ rfl (by rw [List.length_map]; exact hn) hL.1 ?_ (lv_room (by rw [zw_sum]; exact hr)) hd ⟨Nat.le_refl _, Nat.le_refl _⟩)
  · show 8 + (Y'.2.2.1 + 11) + 100 * d' ≤ 100 * d
    omega
  · show st.map (zcv al) = _
    rw [hst, List.map_append, List.map_reverse]
/-- a static method of a nest mate -/
theorem g_callN {d' idx n : Nat} {Y' : MI} {host : String} {As rest : List AV} (hd : decode Y.2.1 pc = .ok (.invokestatic idx, 3)) (hl : (Y.1.cls, idx, Y'.1, host) ∈ zNW) (hm : zMS Y' n) (hdep : d' + 1 ≤ d) (hn : As.length = n) (hr : (rest.map zw).sum ≤ 8) (hst : st = As.reverse ++ rest)
    (hC : zC K d' Y' As mu (fun v mu' => zG K d Y (pc + 3) L (zps v rest) mu' Q)) : zG K d Y pc L st mu Q := by
  intro p l e s m args below meth c D cy al C H locs ls hP hS hL
  obtain ⟨m1, m3, m4, m5, m6, m7⟩ := hm
  have hw : ∀ w ∈ zTB, w.before args s = true := fun w h => C.2.2.2.2.2.1 w (List.mem_cons_of_mem _ h)
  have hN := C.2.2.2.2.2.2.2.1.2 _ hl
  refine zcall C hS hL (rest := rest) (a := (As.map (zcv al)).toArray) (va_runSN (As := As.map (zcv al)) (rest := rest.map (zcv al)) ⟨C.1, C.2.1, C.2.2.1, C.2.2.2.2.1, C.2.2.2.2.2.1⟩ (hC l D cy al H.size C.2.2.2.2.2.2.2.2) ⟨va_cnB n C.2.2.2.2.2.1 (zgin m4) rfl rfl rfl hN (hw _ m3) m5 ⟨hdep, ?_⟩, hw _ m1, trivial⟩ ⟨zblind, fun U hU hW => ⟨rfl, by rw [hU], by rw [hU]; exact hP, C.2.2.2.2.2.2.2.1.warm hW⟩⟩ rfl (by rw [List.length_map]; exact hn) hL.1 ?_ (lv_room (by rw [zw_sum]; exact hr)) hd ⟨Nat.le_refl _, Nat.le_refl _⟩)
  · show 8 + (Y'.2.2.1 + 11) + 100 * d' ≤ 100 * d
    omega
  · show st.map (zcv al) = _
    rw [hst, List.map_append, List.map_reverse]
/-- the locals at the entry -/
def zea (av : List AV) : List AV := av.flatMap (fun v => if v.1 = 1 then [v, zU] else [v])
def zen (av : List AV) (n : Nat) : List AV := zea av ++ List.replicate (n - (zea av).length) zU
theorem zea_len (al : Nat → Nat) (av : List AV) : (lg_sl (av.map (zcv al))).length = (zea av).length := by
  induction av with
  | nil => rfl
  | cons v av ih =>
    simp only [lg_sl, zea, List.map_cons, List.flatMap_cons, List.length_append] at ih ⊢
    rw [ih, zcat]
    by_cases h : v.1 = 1 <;> simp [h]
theorem zea_at (al : Nat → Nat) : ∀ (av : List AV) (i0 i : Nat) (v : AV), (zea av)[i]? = some v → v.1 < 3 → (i0 + i, zcv al v) ∈ lv_args i0 (av.map (zcv al))
  | [], _, _, _, h, _ => by simp [zea] at h
  | w :: av, i0, i, v, h, hv => by
    have ih := zea_at al av
    simp only [List.map_cons, lv_args, zcat]
    by_cases hw : w.1 = 1
    · have hz : zea (w :: av) = w :: zU :: zea av := by simp [zea, hw]
      rw [hz] at h
      match i, h with
      | 0, h => cases h; exact List.mem_cons.mpr (Or.inl rfl)
      | 1, h => cases h; exact absurd hv (by decide)
      | i + 2, h =>
        have := ih (i0 + 2) i v h hv
        simp only [hw, if_true]
        exact List.mem_cons.mpr (Or.inr (by rw [show i0 + (i + 2) = i0 + 2 + i by omega]; simpa using this))
    · have hz : zea (w :: av) = w :: zea av := by simp [zea, hw]
      rw [hz] at h
      match i, h with
      | 0, h => cases h; exact List.mem_cons.mpr (Or.inl rfl)
      | i + 1, h =>
        have := ih (i0 + 1) i v h hv
        simp only [hw, if_false]
        exact List.mem_cons.mpr (Or.inr (by rw [show i0 + (i + 1) = i0 + 1 + i by omega]; simpa using this))
theorem zC_of {av : List AV} (hy : plainName Y.1.cls = true) (hl : (zea av).length ≤ Y.2.2.1) (hL : zen av Y.2.2.1 = L) (k : zG K d Y 0 L [] mu Q) : zC K d Y av mu Q := by
  intro l D cy al sz hinj
  refine Met.ofW (cc := Y.2.1) (maxL := Y.2.2.1) (ret := Y.2.2.2) hy rfl ?_
  intro p e s m args below meth c s₁ B hml hv
  obtain ⟨rfl, hsz, hP, hK⟩ := hv
  subst hsz
  have C : zCx K Y p s m (av.map (zcv al)).toArray meth c D cy al := ⟨B.exec, B.bytes, hml, B.returns, findClass_of_methodNamed B.named, atoms_spec (ws := zws Y) B.pre, B.notSynchronized, hK, hinj⟩
  have hl' : (lg_sl (av.map (zcv al))).length ≤ Y.2.2.1 := by rw [zea_len]; exact hl
  have h := lv_entry (av.map (zcv al)) hl'
  rw [lg_entry_eq]
  refine k p l e s m _ below meth c D cy al C s.heap [] _ hP va_S.rf ⟨h.1, h.2.1, fun i v hi hv => ?_⟩
  rw [← hL] at hi
  unfold zen at hi
  by_cases hlt : i < (zea av).length
  · rw [List.getElem?_append_left hlt] at hi
    have := zea_at al av 0 i v hi hv
    rw [Nat.zero_add] at this
    exact h.2.2 _ this
  · rw [List.getElem?_append_right (by omega)] at hi
    have := List.eq_of_mem_replicate (List.mem_of_getElem? hi)
    subst this
    exact absurd hv (by decide)
theorem zC_mono {av : List AV} {Q' : AV → Mem → Prop} (h : zC K d Y av mu Q) (hq : ∀ v nu, Q v nu → Q' v nu) : zC K d Y av mu Q' := fun l D cy al sz hi =>
  Jvm.Free.MetFree.mono (h l D cy al sz hi) (fun _ _ h => h) (fun _ _ _ _ _ h => h) (fun a s o s' _ hh => ⟨⟨(by
    obtain ⟨v, nu, e1, e2, e3⟩ := hh.1.1
    exact ⟨v, nu, e1, hq v nu e2, e3⟩), hh.1.2⟩, hh.2⟩)
theorem zC_i {av : List AV} {rest : List AV} {Y' : MI} {d' : Nat} {Q' : Int → Mem → Prop} (h : zC K d' Y' av mu (fun v nu => ∃ r, v = zI r ∧ Q' r nu)) (k : ∀ r nu, Q' r nu → zG K d Y (pc + 3) L (zI r :: rest) nu Q) : zC K d' Y' av mu (fun v nu => zG K d Y (pc + 3) L (zps v rest) nu Q) :=
  zC_mono h (fun v nu ⟨r, hr, q⟩ => by subst hr; exact k r nu q)
theorem zC_j {av : List AV} {rest : List AV} {Y' : MI} {d' : Nat} {Q' : Int → Mem → Prop} (h : zC K d' Y' av mu (fun v nu => ∃ r, v = zJ r ∧ Q' r nu)) (k : ∀ r nu, Q' r nu → zG K d Y (pc + 3) L (zJ r :: rest) nu Q) : zC K d' Y' av mu (fun v nu => zG K d Y (pc + 3) L (zps v rest) nu Q) :=
  zC_mono h (fun v nu ⟨r, hr, q⟩ => by subst hr; exact k r nu q)
theorem zC_v {av : List AV} {rest : List AV} {Y' : MI} {d' : Nat} {Q' : Mem → Prop} (h : zC K d' Y' av mu (fun v nu => v = zV ∧ Q' nu)) (k : ∀ nu, Q' nu → zG K d Y (pc + 3) L rest nu Q) : zC K d' Y' av mu (fun v nu => zG K d Y (pc + 3) L (zps v rest) nu Q) :=
  zC_mono h (fun v nu ⟨hr, q⟩ => by subst hr; exact k nu q)
end ZC
