/-! the classes and words at the law's entry (made by mklaw.py) -/
theorem zNW_ok {args : Array Value} {s : State} (hts : ∀ w ∈ lw_tbl, w.before args s = true) : ∀ q ∈ zNW, va_Nw (.methodLinkNest q.1 q.2.1 q.2.2.1 q.2.2.2) s := by
  unfold zNW
  exact List.forall_mem_cons.mpr ⟨va_Nw.of rfl (hts _ (List.mem_append_right _ (show _ ∈ tables_1 from (List.mem_append_right _ (List.mem_append_right _ (List.mem_append_left _ (List.mem_of_getElem? (i := 206) (by decide +kernel)))))))), List.forall_mem_cons.mpr ⟨va_Nw.of rfl (hts _ (List.mem_append_right _ (show _ ∈ tables_1 from (List.mem_append_right _ (List.mem_append_left _ (List.mem_of_getElem? (i := 41) (by decide +kernel))))))), List.forall_mem_cons.mpr ⟨va_Nw.of rfl (hts _ (List.mem_append_right _ (show _ ∈ tables_1 from (List.mem_append_right _ (List.mem_append_left _ (List.mem_of_getElem? (i := 201) (by decide +kernel))))))), List.forall_mem_cons.mpr ⟨va_Nw.of rfl (hts _ (List.mem_append_right _ (show _ ∈ tables_1 from (List.mem_append_right _ (List.mem_append_right _ (List.mem_append_left _ (List.mem_of_getElem? (i := 144) (by decide +kernel)))))))), fun _ h => absurd h List.not_mem_nil⟩⟩⟩⟩
theorem zNI_ok {args : Array Value} {s : State} (hts : ∀ w ∈ lw_tbl, w.before args s = true) : ∀ q ∈ zNI, va_Nw (.methodLinkNest q.1 q.2.1 q.2.2.1 q.2.2.2) s := by
  unfold zNI
  exact List.forall_mem_cons.mpr ⟨va_Nw.of rfl (hts _ (List.mem_append_right _ (show _ ∈ tables_1 from (List.mem_append_left _ (List.mem_of_getElem? (i := 24) (by decide +kernel)))))), List.forall_mem_cons.mpr ⟨va_Nw.of rfl (hts _ (List.mem_append_right _ (show _ ∈ tables_1 from (List.mem_append_left _ (List.mem_of_getElem? (i := 39) (by decide +kernel)))))), List.forall_mem_cons.mpr ⟨va_Nw.of rfl (hts _ (List.mem_append_right _ (show _ ∈ tables_1 from (List.mem_append_left _ (List.mem_of_getElem? (i := 118) (by decide +kernel)))))), List.forall_mem_cons.mpr ⟨va_Nw.of rfl (hts _ (List.mem_append_right _ (show _ ∈ tables_1 from (List.mem_append_left _ (List.mem_of_getElem? (i := 151) (by decide +kernel)))))), List.forall_mem_cons.mpr ⟨va_Nw.of rfl (hts _ (List.mem_append_right _ (show _ ∈ tables_1 from (List.mem_append_left _ (List.mem_of_getElem? (i := 169) (by decide +kernel)))))), List.forall_mem_cons.mpr ⟨va_Nw.of rfl (hts _ (List.mem_append_right _ (show _ ∈ tables_1 from (List.mem_append_left _ (List.mem_of_getElem? (i := 193) (by decide +kernel)))))), List.forall_mem_cons.mpr ⟨va_Nw.of rfl (hts _ (List.mem_append_right _ (show _ ∈ tables_1 from (List.mem_append_left _ (List.mem_of_getElem? (i := 221) (by decide +kernel)))))), List.forall_mem_cons.mpr ⟨va_Nw.of rfl (hts _ (List.mem_append_right _ (show _ ∈ tables_1 from (List.mem_append_right _ (List.mem_append_left _ (List.mem_of_getElem? (i := 2) (by decide +kernel))))))), List.forall_mem_cons.mpr ⟨va_Nw.of rfl (hts _ (List.mem_append_right _ (show _ ∈ tables_1 from (List.mem_append_right _ (List.mem_append_left _ (List.mem_of_getElem? (i := 7) (by decide +kernel))))))), fun _ h => absurd h List.not_mem_nil⟩⟩⟩⟩⟩⟩⟩⟩⟩
theorem zKI_start {args : Array Value} {s : State} (hts : ∀ w ∈ lw_tbl, w.before args s = true) : ∃ (D : va_G) (cy : Nat → ClassId), zKI D cy s := by
  have ht : ∀ w ∈ zTB, w.before args s = true := fun w h => hts w (List.mem_filter.mp h).1
  obtain ⟨c0, i0, h0⟩ := u_known (C := RX0) (T := TX0) (N := 5) (n := 5) ht inX0 (ht (.instantiable RX0 5) (zm2 1 (by decide +kernel) rfl))
  obtain ⟨c1, i1, h1⟩ := u_known (C := RX1) (T := TX1) (N := 5) (n := 5) ht inX1 (ht (.instantiable RX1 5) (zm1 168 (by decide +kernel) rfl))
  obtain ⟨c2, i2, h2⟩ := u_known (C := RX2) (T := TX2) (N := 15) (n := 15) ht inX2 (ht (.instantiable RX2 15) (zm1 38 (by decide +kernel) rfl))
  obtain ⟨c3, i3, h3⟩ := u_known (C := RX3) (T := TX3) (N := 3) (n := 3) ht inX3 (ht (.instantiable RX3 3) (zm1 150 (by decide +kernel) rfl))
  obtain ⟨c4, i4, h4⟩ := u_known (C := RX4) (T := TX4) (N := 2) (n := 2) ht inX4 (ht (.instantiable RX4 2) (zm1 23 (by decide +kernel) rfl))
  obtain ⟨c5, i5, h5⟩ := u_known (C := RX5) (T := TX5) (N := 4) (n := 4) ht inX5 (ht (.instantiable RX5 4) (zm1 220 (by decide +kernel) rfl))
  obtain ⟨c6, i6, h6⟩ := u_known (C := RX6) (T := TX6) (N := 5) (n := 5) ht inX6 (ht (.instantiable RX6 5) (zm1 117 (by decide +kernel) rfl))
  obtain ⟨c7, i7, h7⟩ := u_known (C := RX7) (T := TX7) (N := 6) (n := 6) ht inX7 (ht (.instantiable RX7 6) (zm1 192 (by decide +kernel) rfl))
  obtain ⟨c8, i8, h8⟩ := u_known (C := RX8) (T := TX8) (N := 13) (n := 13) ht inX8 (ht (.instantiable RX8 13) (zm1 15 (by decide +kernel) rfl))
  obtain ⟨c9, i9, h9⟩ := u_known (C := RX9) (T := TX9) (N := 35) (n := 35) ht inX9 (ht (.instantiable RX9 35) (zm4 15 (by decide +kernel) rfl))
  obtain ⟨ab, kb, mb, fb, gb, eb⟩ := Cond.arrayClass_spec (ht (.arrayClass .byte) zw_ab)
  obtain ⟨ai, ki, mi, fi, gi, ei⟩ := Cond.arrayClass_spec (ht (.arrayClass .int) zw_ai)
  obtain ⟨al, kl, ml, fl, gl, el⟩ := Cond.arrayClass_spec (ht (.arrayClass .long) zw_al)
  have ho : (Cond.arrayOver (.object RX6)).before args s = true := hts _ (List.mem_append_right _ (show _ ∈ tables_1 from (List.mem_append_left _ (List.mem_of_getElem? (i := 148) (by decide +kernel)))))
  obtain ⟨mo, ao, ko, fo, -, go, eo, no⟩ := Cond.arrayOver_spec ho
  refine ⟨(fun k => [c0, c1, c2, c3, c4, c5, c6, c7, c8, c9].getD k c0, fun k => [i0, i1, i2, i3, i4, i5, i6, i7, i8, i9].getD k i0), fun k => [ab, ai, al, ao].getD k ab, ⟨⟨fun k q hq => ?_, fun k q hq => ?_⟩, zNW_ok hts⟩, zNI_ok hts, va_AO.of ho⟩
  · have hk : k < 10 := (List.getElem?_eq_some_iff.mp hq).1
    match k, hk, hq with
    | 0, _, hq => cases hq; exact h0
    | 1, _, hq => cases hq; exact h1
    | 2, _, hq => cases hq; exact h2
    | 3, _, hq => cases hq; exact h3
    | 4, _, hq => cases hq; exact h4
    | 5, _, hq => cases hq; exact h5
    | 6, _, hq => cases hq; exact h6
    | 7, _, hq => cases hq; exact h7
    | 8, _, hq => cases hq; exact h8
    | 9, _, hq => cases hq; exact h9
    | k + 10, hk, _ => exact absurd hk (by omega)
  · have hk : k < 4 := (List.getElem?_eq_some_iff.mp hq).1
    match k, hk, hq with
    | 0, _, hq => cases hq; exact ⟨fun n z => ⟨fun k h => (by cases h), kb, gb, mb, eb⟩, fb⟩
    | 1, _, hq => cases hq; exact ⟨fun n z => ⟨fun k h => (by cases h), ki, gi, mi, ei⟩, fi⟩
    | 2, _, hq => cases hq; exact ⟨fun n z => ⟨fun k h => (by cases h), kl, gl, ml, el⟩, fl⟩
    | 3, _, hq => cases hq; exact ⟨fun n z => ⟨fun k h => (by cases h), ko, go, mo, eo⟩, ko, mo, go, eo, fo, no⟩
    | k + 4, hk, _ => exact absurd hk (by omega)
