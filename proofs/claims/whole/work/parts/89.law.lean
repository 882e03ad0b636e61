/-! THE CLAIM OUT OF ONE WALK OF THE LAW'S BODY. Your part is whole_start (and what it stands on); all else here is the same for every law, but numbers. -/
def R_law : String := "LastThreeLaw"
def lw_P (b : Addr) (xs : List Int32) (args : Array Value) (s : State) : Prop := args = #[.ref b] ∧ s.IntsAt b xs ∧ xs.length ≤ 2048 ∧ (Jvm.Cond.and given_1 narrow_1).before args s = true
def lw_Q (_ : Array Value) (s : State) (o : Outcome) (t : State) : Prop := o = .returned (some (.int 1)) ∧ Framed s o t [] 600000 7302249
def lw_Z (below : List Frame) (a : Array Value) (s : State) : State → Prop := fun t => ∃ o, t.status = .running ∧ Ended t below o ∧ lw_Q a s o t
/-- the law's own end, with 1 on the stack, nothing written that was there before, its room as the claim has it -/
theorem lw_ret {p : Program} {l : Launch} {e : Env} {s : State} {m : MethodId} {below : List Frame} {meth : Method} {c : Code} {b : Nat} (hx : p.tables.exec = Jvm.exec) (hb : c.code = code) (hr : meth.sig.returnType = ret) (hlocks : meth.locks = false) {pc : Nat} {H : Heap} {ls : Array Slot} (hdg : decode code pc = .ok (.ireturn, 1)) : W p l e room_1 s m #[Value.ref b] below meth c H [] 600000 7302249 (lw_Z below #[Value.ref b] s) (F0 m pc ls [.int 1]) := by
  intro T hT X
  obtain ⟨fs, hret, hrun, hended, hW, hframe⟩ := X.leave (v := some (.int 1)) (hlocks := hlocks) (fun h => by rw [hr] at h; cases h)
  have hmeth' : T.vm.method? m = some meth := X.method'
  refine ⟨T.setFrames fs, ?_, .returned (some (.int 1)), hrun, hended, rfl, ⟨_, rfl⟩, hW, hframe⟩
  jvm_step X.here [X.here.top, hx, hb, hdg, hmeth', hr, ret, narrow_b1]
  (try refine ⟨rfl, ?_⟩); (try refine ⟨rfl, ?_⟩)
  first | (intro acts; rw [hret _ acts rfl rfl rfl]) | rw [hret _ _ rfl rfl rfl]
  exact Steps.refl _
/-- what holds at the law's entry: the machine, the code, the tables' words (any of lw_tbl by 'hts w (by decide +kernel)'), the script of L ints xs at the cell b, what the Statement gives of the start (any of its parts by flat_of_before) -/
def lw_At (p : Program) (s : State) (m : MethodId) (meth : Method) (c : Code) (b L : Nat) (xs : Nat → Int32) : Prop :=
  p.tables.exec = Jvm.exec ∧ c.code = code ∧ meth.sig.returnType = ret ∧ c.maxLocals = 4 ∧ s.vm.findClass R_law = some m.cls ∧ (∀ w ∈ lw_tbl, w.before #[Value.ref b] s = true) ∧ va_X b L xs s s.heap ∧ b < s.heap.size ∧ meth.locks = false ∧ (Jvm.Cond.and given_1 narrow_1).before #[Value.ref b] s = true
theorem zrot {A : Nat → Prop} {D : va_G} {cl : List vw_C} {ws : va_W} {x : Nat × va_E} {H : Heap} (hP : va_P D cl (ws ++ [x]) H) (hD : va_D A (ws ++ [x])) : va_P D cl (x :: ws) H ∧ va_D A (x :: ws) := by
  have key : ∀ (k : Nat) (y : Nat × va_E), (x :: ws)[k]? = some y → ∃ k' : Nat, (ws ++ [x])[k']? = some y ∧ k' = (if k = 0 then ws.length else k - 1) ∧ k ≤ ws.length := by
    intro k y hy
    cases k with
    | zero => exact ⟨ws.length, by rw [List.getElem?_append_right (Nat.le_refl _), Nat.sub_self]; exact hy, by rw [if_pos rfl], Nat.zero_le _⟩
    | succ k =>
      have h2 : ws[k]? = some y := hy
      have hk : k < ws.length := (List.getElem?_eq_some_iff.mp h2).1
      exact ⟨k, by rw [List.getElem?_append_left hk]; exact h2, by rw [if_neg (by omega)]; omega, hk⟩
  refine ⟨fun k y hy => ?_, fun i j a b hi hj hab => ?_, fun k y hy => ?_⟩
  · obtain ⟨k', h, -, -⟩ := key k y hy
    exact hP k' y h
  · obtain ⟨i', h1, e1, l1⟩ := key i a hi
    obtain ⟨j', h2, e2, l2⟩ := key j b hj
    have := hD.1 i' j' a b h1 h2 hab
    rw [e1, e2] at this
    split at this <;> split at this <;> omega
  · obtain ⟨k', h, -, -⟩ := key k y hy
    exact hD.2 k' y h
theorem zlw32 {n : Nat} (h : n < 2 ^ 31) : nI n = z32 (n : Int) := by rw [← nI_toInt h, z32_of]
set_option maxHeartbeats 8000000 in
set_option maxRecDepth 20000 in
theorem lw_loop {p : Program} {l : Launch} {e : Env} {s : State} {m : MethodId} {below : List Frame} {meth : Method} {c : Code} {D : va_G} {cy : Nat → ClassId} {b L : Nat} {xs : Nat → Int32} {al : Nat → Nat} (B : zLw p s m c D cy b L xs) (hr : meth.sig.returnType = ret) (hlk : meth.locks = false) : ∀ (n i : Nat) (mu : Mem) (P : Int) (H : Heap) (locs : List Loc) (ls : Array Slot), i ≤ L → L + 1 ≤ i + n → jJ mu P → zSt (zAw s) s D (zwl 93 al cy mu) H locs → lv_has ls 4 [(0, .ref b), (1, .ref (al 0)), (2, .ref (al 64)), (3, .int (nI i))] → W p l e room_1 s m #[Value.ref b] below meth c H locs 93 79816 (lw_Z below #[Value.ref b] s) (F0 m 18 ls []) := by
  have hL := B.2.2.2
  have hbA : ¬ zAw s b := Nat.not_le.mpr B.2.2.1
  intro n
  induction n with
  | zero =>
    intro i mu P H locs ls h1 h2
    exact absurd h2 (by omega)
  | succ n ih =>
    intro i mu P H locs ls hiL hin hJ St hl
    refine lv_iload_n B.1.1 B.1.2.1 dL_law_18 rfl (lv_at hl 3 rfl) ?_
    refine lv_aload_n B.1.1 B.1.2.1 dL_law_19 rfl (lv_at hl 0 rfl) ?_
    refine va_slen B.1.1 B.1.2.1 B.2.1 B.2.2.1 hbA St.2.2 dL_law_20 ?_
    refine lv_iconst (v := z32 4) B.1.1 B.1.2.1 dL_law_21 rfl ?_
    refine lv_isub B.1.1 B.1.2.1 dL_law_22 ?_
    have eL : Int32.ofNat L - z32 4 = z32 ((L : Int) - 4) := by
      rw [z32_sub]
      exact congrArg (fun z => z - z32 4) (zlw32 (n := L) (by omega))
    rw [eL]
    refine lv_icmp_gt (tgt := 779) B.1.1 B.1.2.1 dL_law_23 (by decide) (fun _ => ?_) (fun c1 => ?_)
    · refine lv_iconst (v := 1) B.1.1 B.1.2.1 dL_law_779 (by decide) ?_
      refine va_forget (fun q hq => St.2.2.2.2 q hq) ?_
      refine W.widen (k := 600000) (n := 7302249) (Nat.le_of_ble_eq_true rfl) (Nat.le_of_ble_eq_true rfl) ?_
      exact lw_ret B.1.1 B.1.2.1 hr hlk dL_law_780
    have hi : i + 3 < L := by
      rcases Nat.lt_or_ge (i + 3) L with q | q
      · exact q
      · refine absurd ?_ c1
        rw [zlw32 (n := i) (by omega)]
        exact (z32_lt ⟨by omega, by omega⟩ ⟨by omega, by omega⟩).mpr (by omega)
    refine lv_aload_n B.1.1 B.1.2.1 dL_law_26 rfl (lv_at hl 0 rfl) ?_
    refine lv_iload_n B.1.1 B.1.2.1 dL_law_27 rfl (lv_at hl 3 rfl) ?_
    refine va_sld B.1.1 B.1.2.1 B.2.1 B.2.2.1 hbA St.2.2 (vp_in_nI (by omega) (by omega)) dL_law_28 ?_
    refine lv_bipush (v := 31) B.1.1 B.1.2.1 dL_law_29 (by decide) ?_
    refine lv_iand B.1.1 B.1.2.1 dL_law_31 ?_
    refine lv_topi (fun y _ => ?_)
    have nx : ∀ (nu : Mem) (P : Int) (H : Heap) (locs : List Loc), jJ nu P → zSt (zAw s) s D (zwl 93 al cy nu) H locs → W p l e room_1 s m #[Value.ref b] below meth c H locs 93 79816 (lw_Z below #[Value.ref b] s) (F0 m 773 ls []) := fun nu P H locs hJ St => by
      refine lv_iinc (v := nI (i + 4)) (lv' := [(3, .int (nI (i + 4))), (0, .ref b), (1, .ref (al 0)), (2, .ref (al 64))]) B.1.1 B.1.2.1 dL_law_773 hl (k := 3) rfl (nI_add i 4) (by decide) rfl (fun ls hl => ?_)
      refine lv_goto (tgt := 18) B.1.1 B.1.2.1 dL_law_776 (by decide) ?_
      exact ih (i + 4) nu P H locs ls (by omega) (by omega) hJ St (lv_sub hl [1, 2, 3, 0] rfl)
    rcases (show y.toInt < 0 ∨ y.toInt = 0 ∨ y.toInt = 1 ∨ y.toInt = 2 ∨ y.toInt = 3 ∨ y.toInt = 4 ∨ y.toInt = 5 ∨ y.toInt = 6 ∨ y.toInt = 7 ∨ y.toInt = 8 ∨ y.toInt = 9 ∨ y.toInt = 10 ∨ y.toInt = 11 ∨ y.toInt = 12 ∨ y.toInt = 13 ∨ y.toInt = 14 ∨ y.toInt = 15 ∨ y.toInt = 16 ∨ y.toInt = 17 ∨ y.toInt = 18 ∨ y.toInt = 19 ∨ y.toInt = 20 ∨ y.toInt = 21 ∨ y.toInt = 22 ∨ y.toInt = 23 ∨ y.toInt = 24 ∨ y.toInt = 25 ∨ 25 < y.toInt by omega) with ex | ex | ex | ex | ex | ex | ex | ex | ex | ex | ex | ex | ex | ex | ex | ex | ex | ex | ex | ex | ex | ex | ex | ex | ex | ex | ex | ex
    · exact lv_tableOut (tgt := 773) B.1.1 B.1.2.1 dL_law_32 (Or.inl ex) (by decide) (nx mu P H locs hJ St)
    · exact lv_tableIn (tgt := 152) B.1.1 B.1.2.1 dL_law_32 (by rw [ex]; decide) (by rw [ex]; decide) (off := 120) (by rw [ex]; rfl) (by decide) (lw_c0 B St hl hJ hi nx)
    · exact lv_tableIn (tgt := 215) B.1.1 B.1.2.1 dL_law_32 (by rw [ex]; decide) (by rw [ex]; decide) (off := 183) (by rw [ex]; rfl) (by decide) (lw_c1 B St hl hJ hi nx)
    · exact lv_tableIn (tgt := 228) B.1.1 B.1.2.1 dL_law_32 (by rw [ex]; decide) (by rw [ex]; decide) (off := 196) (by rw [ex]; rfl) (by decide) (lw_c2 B St hl hJ hi nx)
    · exact lv_tableIn (tgt := 241) B.1.1 B.1.2.1 dL_law_32 (by rw [ex]; decide) (by rw [ex]; decide) (off := 209) (by rw [ex]; rfl) (by decide) (lw_c3 B St hl hJ hi nx)
    · exact lv_tableIn (tgt := 254) B.1.1 B.1.2.1 dL_law_32 (by rw [ex]; decide) (by rw [ex]; decide) (off := 222) (by rw [ex]; rfl) (by decide) (lw_c4 B St hl hJ hi nx)
    · exact lv_tableIn (tgt := 287) B.1.1 B.1.2.1 dL_law_32 (by rw [ex]; decide) (by rw [ex]; decide) (off := 255) (by rw [ex]; rfl) (by decide) (lw_c5 B St hl hJ hi nx)
    · exact lv_tableIn (tgt := 310) B.1.1 B.1.2.1 dL_law_32 (by rw [ex]; decide) (by rw [ex]; decide) (off := 278) (by rw [ex]; rfl) (by decide) (lw_c6 B St hl hJ hi nx)
    · exact lv_tableIn (tgt := 323) B.1.1 B.1.2.1 dL_law_32 (by rw [ex]; decide) (by rw [ex]; decide) (off := 291) (by rw [ex]; rfl) (by decide) (lw_c7 B St hl hJ hi nx)
    · exact lv_tableIn (tgt := 346) B.1.1 B.1.2.1 dL_law_32 (by rw [ex]; decide) (by rw [ex]; decide) (off := 314) (by rw [ex]; rfl) (by decide) (lw_c8 B St hl hJ hi nx)
    · exact lv_tableIn (tgt := 379) B.1.1 B.1.2.1 dL_law_32 (by rw [ex]; decide) (by rw [ex]; decide) (off := 347) (by rw [ex]; rfl) (by decide) (lw_c9 B St hl hJ hi nx)
    · exact lv_tableIn (tgt := 412) B.1.1 B.1.2.1 dL_law_32 (by rw [ex]; decide) (by rw [ex]; decide) (off := 380) (by rw [ex]; rfl) (by decide) (lw_c10 B St hl hJ hi nx)
    · exact lv_tableIn (tgt := 445) B.1.1 B.1.2.1 dL_law_32 (by rw [ex]; decide) (by rw [ex]; decide) (off := 413) (by rw [ex]; rfl) (by decide) (lw_c11 B St hl hJ hi nx)
    · exact lv_tableIn (tgt := 478) B.1.1 B.1.2.1 dL_law_32 (by rw [ex]; decide) (by rw [ex]; decide) (off := 446) (by rw [ex]; rfl) (by decide) (lw_c12 B St hl hJ hi nx)
    · exact lv_tableIn (tgt := 491) B.1.1 B.1.2.1 dL_law_32 (by rw [ex]; decide) (by rw [ex]; decide) (off := 459) (by rw [ex]; rfl) (by decide) (lw_c13 B St hl hJ hi nx)
    · exact lv_tableIn (tgt := 514) B.1.1 B.1.2.1 dL_law_32 (by rw [ex]; decide) (by rw [ex]; decide) (off := 482) (by rw [ex]; rfl) (by decide) (lw_c14 B St hl hJ hi nx)
    · exact lv_tableIn (tgt := 537) B.1.1 B.1.2.1 dL_law_32 (by rw [ex]; decide) (by rw [ex]; decide) (off := 505) (by rw [ex]; rfl) (by decide) (lw_c15 B St hl hJ hi nx)
    · exact lv_tableIn (tgt := 550) B.1.1 B.1.2.1 dL_law_32 (by rw [ex]; decide) (by rw [ex]; decide) (off := 518) (by rw [ex]; rfl) (by decide) (lw_c16 B St hl hJ hi nx)
    · exact lv_tableIn (tgt := 574) B.1.1 B.1.2.1 dL_law_32 (by rw [ex]; decide) (by rw [ex]; decide) (off := 542) (by rw [ex]; rfl) (by decide) (lw_c17 B St hl hJ hi nx)
    · exact lv_tableIn (tgt := 618) B.1.1 B.1.2.1 dL_law_32 (by rw [ex]; decide) (by rw [ex]; decide) (off := 586) (by rw [ex]; rfl) (by decide) (lw_c18 B St hl hJ hi nx)
    · exact lv_tableIn (tgt := 641) B.1.1 B.1.2.1 dL_law_32 (by rw [ex]; decide) (by rw [ex]; decide) (off := 609) (by rw [ex]; rfl) (by decide) (lw_c19 B St hl hJ hi nx)
    · exact lv_tableIn (tgt := 674) B.1.1 B.1.2.1 dL_law_32 (by rw [ex]; decide) (by rw [ex]; decide) (off := 642) (by rw [ex]; rfl) (by decide) (lw_c20 B St hl hJ hi nx)
    · exact lv_tableIn (tgt := 687) B.1.1 B.1.2.1 dL_law_32 (by rw [ex]; decide) (by rw [ex]; decide) (off := 655) (by rw [ex]; rfl) (by decide) (lw_c21 B St hl hJ hi nx)
    · exact lv_tableIn (tgt := 710) B.1.1 B.1.2.1 dL_law_32 (by rw [ex]; decide) (by rw [ex]; decide) (off := 678) (by rw [ex]; rfl) (by decide) (lw_c22 B St hl hJ hi nx)
    · exact lv_tableIn (tgt := 724) B.1.1 B.1.2.1 dL_law_32 (by rw [ex]; decide) (by rw [ex]; decide) (off := 692) (by rw [ex]; rfl) (by decide) (lw_c23 B St hl hJ hi nx)
    · exact lv_tableIn (tgt := 737) B.1.1 B.1.2.1 dL_law_32 (by rw [ex]; decide) (by rw [ex]; decide) (off := 705) (by rw [ex]; rfl) (by decide) (lw_c24 B St hl hJ hi nx)
    · exact lv_tableIn (tgt := 750) B.1.1 B.1.2.1 dL_law_32 (by rw [ex]; decide) (by rw [ex]; decide) (off := 718) (by rw [ex]; rfl) (by decide) (lw_c25 B St hl hJ hi nx)
    · exact lv_tableOut (tgt := 773) B.1.1 B.1.2.1 dL_law_32 (Or.inr ex) (by decide) (nx mu P H locs hJ St)
set_option maxHeartbeats 8000000 in
set_option maxRecDepth 20000 in
theorem whole_start {p : Program} {e : Env} {s : State} {m : MethodId} {below : List Frame} {meth : Method} {c : Code} (l : Launch) {b L : Nat} {xs : Nat → Int32} (hL : L ≤ 2048) (C0 : lw_At p s m meth c b L xs) : W p l e room_1 s m #[Value.ref b] below meth c s.heap [] 0 0 (lw_Z below #[Value.ref b] s) (entryFrame m ([Value.ref b] : List Value).toArray 4) := by
  obtain ⟨hx, hb, hr, hml, hown, hts, hX, hbl, hlocks, hgv⟩ := C0
  obtain ⟨D, cy, hK⟩ := zKI_start hts
  have ht : ∀ w ∈ zTB, w.before #[Value.ref b] s = true := fun w h => hts w (List.mem_filter.mp h).1
  have hown : s.vm.findClass RL = some m.cls := hown
  have hb : c.code = cL_law := hb
  have B : zLw p s m c D cy b L xs := ⟨⟨hx, hb, hml, hown, ht, hK⟩, hX, hbl, hL⟩
  have hA : ∀ q, s.heap.size ≤ q → zAw s q := fun _ h => h
  have hS : va_S (zAw s) s.heap s.heap [] := va_S.rf
  have hP : va_P D vwCl [] s.heap := fun k q h => by simp at h
  have hD : va_D (zAw s) [] := ⟨fun i j p q h => by simp at h, fun k q h => by simp at h⟩
  have hl := lv_entry ([.ref b]) (n := 4) (Nat.le_of_ble_eq_true rfl)
  rw [lg_entry_eq]
  generalize (lg_sl ([.ref b]) ++ List.replicate (4 - (lg_sl ([.ref b])).length) Slot.unset).toArray = ls at hl ⊢
  have hl : lv_has ls 4 [(0, .ref b)] := hl
  refine va_new (ci := 8) (fs := [.null, .int 0, .null, .null, .null, .null, .null, .int 0, .null, .null, .null, .null, .null]) (C := RX8) (T := TX8) (N := 13) (own := RL) (index := 7) hx hb ht inX8 tyX8 tyX8_ok hown (ht _ (zm1 14 (by decide +kernel) rfl)) (ht _ (zm1 15 (by decide +kernel) rfl)) (ht _ (zm1 1 (by decide +kernel) rfl)) hK.1.1 hP hD hS hA rfl (fun j hj => by rcases (show j = 0 ∨ j = 1 ∨ j = 2 ∨ j = 3 ∨ j = 4 ∨ j = 5 ∨ j = 6 ∨ j = 7 ∨ j = 8 ∨ j = 9 ∨ j = 10 ∨ j = 11 ∨ j = 12 by omega) with rfl | rfl | rfl | rfl | rfl | rfl | rfl | rfl | rfl | rfl | rfl | rfl | rfl <;> rfl) (Nat.le_of_ble_eq_true rfl) (Nat.le_of_ble_eq_true rfl) dL_law_0 (fun q H hP hD hS => ?_)
  have hP : va_P D vwCl [(q, .inr (8, [.null, .int 0, .null, .null, .null, .null, .null, .int 0, .null, .null, .null, .null, .null]))] H := hP
  have hD : va_D (zAw s) [(q, .inr (8, [.null, .int 0, .null, .null, .null, .null, .null, .int 0, .null, .null, .null, .null, .null]))] := hD
  refine lv_dup hx hb dL_law_3 rfl ?_
  have hFc := va_free (wc := [(q, .inr (8, [.null, .int 0, .null, .null, .null, .null, .null, .int 0, .null, .null, .null, .null, .null]))]) hD hS hA [0] rfl
  refine va_callv (va_runI (As := []) (rest := [.ref q]) ⟨hx, hb, hml, hown, ht⟩ (mk_X8 l D cy q H.size) (cwI 0 ht (zgin0 mcX8) rfl rfl rfl (ht _ (zm1 1 (by decide +kernel) rfl)) (ht _ (zm1 16 (by decide +kernel) rfl)) (ht _ (zm1 17 (by decide +kernel) rfl)) rfl (by decide +kernel) ⟨Nat.le_of_ble_eq_true rfl, Nat.le_of_ble_eq_true rfl⟩) ⟨fun _ U g mk q => ⟨q.1, q.2.1, q.2.2.1, zKI.same (s := U) rfl q.2.2.2⟩, fun U hU hW => ⟨rfl, by rw [hU], by rw [hU]; exact hP, hK.warm hW⟩⟩ rfl rfl hl.1 rfl (lv_room (Nat.le_of_ble_eq_true rfl)) dL_law_4 ⟨Nat.le_of_ble_eq_true rfl, Nat.le_of_ble_eq_true rfl⟩) hS (fun a _ h => hFc a h) hFc (fun u t H locs ht2 hvm hw hB hz1 hk1 hS => ?_)
  obtain ⟨al0, mu0⟩ := u
  obtain ⟨hq, hI⟩ := hw
  obtain ⟨hP1, hD1⟩ := hB
  rw [ht2] at hP1
  have St : zSt (zAw s) s D (zwl 64 al0 cy mu0) H locs := ⟨hP1, ⟨hD1.1, fun k y hy => hFc _ (hD1.2 k y hy)⟩, hS⟩
  have hq : al0 0 = q := hq
  refine lv_astore_n (lv' := [(1, .ref q), (0, .ref b)]) hx hb dL_law_7 rfl hl (by decide) rfl (fun ls hl => ?_)
  refine va_new (ci := 9) (fs := [.int 0, .null, .null, .null, .null, .null, .null, .null, .null, .null, .null, .null, .null, .null, .null, .null, .int 0, .int 0, .null, .int 0, .int 0, .null, .int 0, .null, .null, .int 0, .null, .null, .null, .null, .null, .null, .null, .null, .null]) (C := RX9) (T := TX9) (N := 35) (own := RL) (index := 10) hx hb ht inX9 tyX9 tyX9_ok hown (ht _ (zm4 14 (by decide +kernel) rfl)) (ht _ (zm4 15 (by decide +kernel) rfl)) (ht _ (zm1 13 (by decide +kernel) rfl)) hK.1.1 St.1 St.2.1 St.2.2 hA rfl (fun j hj => by rcases (show j = 0 ∨ j = 1 ∨ j = 2 ∨ j = 3 ∨ j = 4 ∨ j = 5 ∨ j = 6 ∨ j = 7 ∨ j = 8 ∨ j = 9 ∨ j = 10 ∨ j = 11 ∨ j = 12 ∨ j = 13 ∨ j = 14 ∨ j = 15 ∨ j = 16 ∨ j = 17 ∨ j = 18 ∨ j = 19 ∨ j = 20 ∨ j = 21 ∨ j = 22 ∨ j = 23 ∨ j = 24 ∨ j = 25 ∨ j = 26 ∨ j = 27 ∨ j = 28 ∨ j = 29 ∨ j = 30 ∨ j = 31 ∨ j = 32 ∨ j = 33 ∨ j = 34 by omega) with rfl | rfl | rfl | rfl | rfl | rfl | rfl | rfl | rfl | rfl | rfl | rfl | rfl | rfl | rfl | rfl | rfl | rfl | rfl | rfl | rfl | rfl | rfl | rfl | rfl | rfl | rfl | rfl | rfl | rfl | rfl | rfl | rfl | rfl | rfl <;> rfl) (Nat.le_of_ble_eq_true rfl) (Nat.le_of_ble_eq_true rfl) dL_law_8 (fun q9 H hP hD hS => ?_)
  obtain ⟨hP, hD⟩ := zrot hP hD
  refine lv_dup hx hb dL_law_11 rfl ?_
  have hFc : ∀ a, va_A (z9W al0 cy mu0 q9) H.size a → zAw s a := fun a h => by
    rcases h with ⟨k, x, hk⟩ | h
    · exact hD.2 k _ hk
    · exact Nat.le_trans hS.1 h
  refine va_callv (va_runI (As := []) (rest := [.ref q9]) ⟨hx, hb, hml, hown, ht⟩ (mk_X9 l D cy al0 mu0 hI q9 H.size) (cwI 0 ht (zgin0 mcX9) rfl rfl rfl (ht _ (zm1 13 (by decide +kernel) rfl)) (ht _ (zm4 16 (by decide +kernel) rfl)) (ht _ (zm4 17 (by decide +kernel) rfl)) rfl (by decide +kernel) ⟨Nat.le_of_ble_eq_true rfl, Nat.le_of_ble_eq_true rfl⟩) ⟨fun _ U g mk q => ⟨q.1, q.2.1, q.2.2.1, q.2.2.2.1, zKI.same (s := U) rfl q.2.2.2.2⟩, fun U hU hW => ⟨rfl, by rw [hU], by rw [hU]; exact hP, ⟨hD.1, fun _ _ _ => trivial⟩, hK.warm hW⟩⟩ rfl rfl hl.1 rfl (lv_room (Nat.le_of_ble_eq_true rfl)) dL_law_12 ⟨Nat.le_of_ble_eq_true rfl, Nat.le_of_ble_eq_true rfl⟩) hS (fun a _ h => hFc a h) hFc (fun u t H locs ht2 hvm hw hB hz1 hk1 hS => ?_)
  obtain ⟨al, mu⟩ := u
  obtain ⟨h1, h2, hM⟩ := hw
  obtain ⟨hP1, hD1⟩ := hB
  rw [ht2] at hP1
  have St : zSt (zAw s) s D (zwl 93 al cy mu) H locs := ⟨hP1, ⟨hD1.1, fun k y hy => hFc _ (hD1.2 k y hy)⟩, hS⟩
  have e0 : al 0 = q := (h1 0 (by decide)).trans hq
  have e64 : al 64 = q9 := h2
  refine lv_astore_n (lv' := [(2, .ref q9), (1, .ref q), (0, .ref b)]) hx hb dL_law_15 rfl hl (by decide) rfl (fun ls hl => ?_)
  refine lv_iconst (v := nI 0) hx hb dL_law_16 rfl ?_
  refine lv_istore_n (lv' := [(3, .int (nI 0)), (2, .ref q9), (1, .ref q), (0, .ref b)]) hx hb dL_law_17 rfl hl (by decide) rfl (fun ls hl => ?_)
  refine lw_loop (al := al) B hr hlocks (L + 1) 0 mu 4 H locs ls (Nat.zero_le L) (by omega) (jJ_start hI hM) St ?_
  rw [e0, e64]
  exact lv_sub hl [3, 2, 1, 0] rfl
