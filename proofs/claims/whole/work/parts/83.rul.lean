/-! rows for frames that hold the whole world: the constructors of class and reference, the law -/
def zCt (own : String) (cc : ByteArray) (nL : Nat) (p : Program) (s : State) (m : MethodId) (args : Array Value) (c : Code) (D : va_G) (cy : Nat → ClassId) : Prop :=
  p.tables.exec = Jvm.exec ∧ c.code = cc ∧ c.maxLocals = nL ∧ s.vm.findClass own = some m.cls ∧ (∀ w ∈ zTB, w.before args s = true) ∧ zKI D cy s
theorem zCi.ct {Y : MI} {p : Program} {s : State} {m : MethodId} {args : Array Value} {meth : Method} {c : Code} {D : va_G} {cy : Nat → ClassId} (C : zCi Y p s m args meth c D cy) : zCt Y.1.cls Y.2.1 Y.2.2.1 p s m args c D cy := ⟨C.1, C.2.1, C.2.2.1, C.2.2.2.2.1, fun w h => C.w h, C.2.2.2.2.2.2.2.1⟩
theorem zgin0 {Y' : MI} (h : Cond.code Y'.1 Y'.2.1 Y'.2.2.1 Y'.2.2.2 ∈ zTB) : GoodIn zTB (zws Y') := by
  have hz : ∀ w ∈ zTB, w ∈ zTB ∧ ((w.onTables && w.keeps) = true ∨ ∃ ty, w = .arrayClass ty) := fun w hw => ⟨hw, good_of_word (List.mem_filter.mp hw).2⟩
  intro w hw
  rcases List.mem_cons.mp hw with rfl | hw
  · exact hz _ h
  · exact hz w hw
theorem zwl_inj {A : Nat → Prop} {K : Nat} {al : Nat → Nat} {cy : Nat → ClassId} {mu : Mem} (h : va_D A (zwl K al cy mu)) : ∀ i j : Nat, i < K → j < K → al i = al j → i = j := fun i j hi hj e => h.1 i j _ _ (zwl_get hi) (zwl_get hj) e
theorem zwl_D {A : Nat → Prop} {K : Nat} {al : Nat → Nat} {cy : Nat → ClassId} {mu nu : Mem} (h : va_D A (zwl K al cy mu)) : va_D A (zwl K al cy nu) := by
  refine ⟨fun i j p q hi hj hpq => ?_, fun k q hk => ?_⟩
  · obtain ⟨h1, rfl⟩ := zwl_at hi
    obtain ⟨h2, rfl⟩ := zwl_at hj
    exact zwl_inj h i j h1 h2 hpq
  · obtain ⟨h1, rfl⟩ := zwl_at hk
    exact h.2 k (al k, zce al cy mu k) (zwl_get (mu := mu) h1)
theorem zarrq {cA : ClassId} {n : Nat} {f g : Nat → Option Nat} (h : ∀ j, j < n → f j = g j) : vp_cell cA (n, .inr (.inr (.inr (.inr f)))) = vp_cell cA (n, .inr (.inr (.inr (.inr g)))) := by
  show arrV cA n (fun j => va_rf (f j)) = arrV cA n (fun j => va_rf (g j))
  unfold arrV
  have e : (fun j : Fin n => va_rf (f j.val)) = fun j : Fin n => va_rf (g j.val) := funext fun j => by rw [h j.val j.isLt]
  rw [e]
section S83
variable {p : Program} {l : Launch} {e : Env} {R : Room} {s : State} {m : MethodId} {args : Array Value} {below : List Frame} {meth : Method} {c : Code} {D : va_G} {cy : Nat → ClassId} {own : String} {cc : ByteArray} {nL : Nat} {A : Nat → Prop} {H : Heap} {locs : List Loc} {cells slots pc K : Nat} {ls : Array Slot} {Q : State → Prop} {al : Nat → Nat} {mu : Mem}
theorem zt_callV (C : zCt own cc nL p s m args c D cy) {d' idx n ci : Nat} {Y' : MI} {As rest : List AV} {st : List Value} {k : Int} {Q' : AV → Mem → Prop} (hSt : zSt A s D (zwl K al cy mu) H locs) (hA : ∀ q, s.heap.size ≤ q → A q) (hls : ls.size = nL) (hd : decode cc pc = .ok (.invokevirtual idx, 3)) (hl : Cond.methodLink own idx Y'.1 ∈ zTB) (hm : zMV Y' n) (hroom : d' + 1 ≤ R.frames ∧ 8 + (Y'.2.2.1 + 11) + 100 * d' ≤ R.locals) (ho : zOb K ci k) (hc : vwCl[ci]?.map (fun q => q.1) = some Y'.1.cls) (hn : As.length = n) (hr : (rest.map zw).sum ≤ 8) (hst : st = (As.reverse ++ zR k :: rest).map (zcv al)) (hcs : cells ≤ R.cells ∧ slots ≤ R.slots)
    (hC : zC K d' Y' (zR k :: As) mu Q')
    (kk : ∀ (v : AV) (nu : Mem) (H1 : Heap) (locs1 : List Loc), Q' v nu → zSt A s D (zwl K al cy nu) H1 locs1 → W p l e R s m args below meth c H1 locs1 cells slots Q (F0 m (pc + 3) ls ((zps v rest).map (zcv al)))) : W p l e R s m args below meth c H locs cells slots Q (F0 m pc ls st) := by
  obtain ⟨m1, m2, m3, m4, m5, m6, m7⟩ := hm
  have hw : ∀ w ∈ zTB, w.before args s = true := C.2.2.2.2.1
  have hinj := zwl_inj hSt.2.1
  cases hcl : vwCl[ci]? with
  | none => rw [hcl] at hc; cases hc
  | some q =>
    rw [hcl] at hc
    have hc : q.1 = Y'.1.cls := Option.some.inj hc
    have hrv := va_recv C.2.2.2.2.2.1.1 hSt.1 hcl (ho.cell (al := al) (cy := cy) (mu := mu))
    rw [hc] at hrv
    have hrun : va_Run p l e R s m args below meth c H locs cells slots 0 0 (F0 m pc ls st) (rest.map (zcv al)) (zQ K D cy al H.size Q' (Value.ref (al k.toNat) :: As.map (zcv al)).toArray) (zA K al H.size) :=
      va_runV (As := As.map (zcv al)) (rest := rest.map (zcv al)) (b := al k.toNat) ⟨C.1, C.2.1, C.2.2.1, C.2.2.2.1, hw⟩ (hC l D cy al H.size hinj) ⟨callB_of n hw (zgin0 m4) rfl rfl rfl (hw _ m3) (hw _ hl) m5 ⟨hroom.1, hroom.2⟩, hw _ m1, hw _ m2⟩ ⟨zblind, hrv, fun U hU hW => ⟨rfl, by rw [hU], by rw [hU]; exact hSt.1, C.2.2.2.2.2.1.warm hW⟩⟩ rfl (by rw [List.length_map]; exact hn) hls (by
        show st = _
        rw [hst, List.map_append, List.map_reverse]
        rfl) (lv_room (by rw [zw_sum]; exact hr)) hd ⟨hcs.1, hcs.2⟩
    intro T hT X
    obtain ⟨v, st₀, t, T', L', h0, X', hL', e1, e2, ⟨⟨w, nu, hv, hq, hp⟩, hz, hk⟩, hgo⟩ := hrun T hT X
    have hv : v = zrv al w := by injection hv
    subst hv
    rw [h0] at hz hk
    have hA1 : ∀ q : Nat, zA K al H.size q → A q := fun q h => by
      rcases h with ⟨k, hk, rfl⟩ | h
      · exact hSt.2.1.2 k _ (zwl_get hk)
      · exact hA q (Nat.le_trans hSt.2.2.1 h)
    have hS' : va_S A s.heap T'.heap (locs ++ L') := ⟨Nat.le_trans hSt.2.2.1 (by rw [e1]; exact hz), fun q h1 h2 => by
        rw [e1, hk q (Nat.lt_of_lt_of_le h1 hSt.2.2.1) (fun z => h2 (hA1 q z))]; exact hSt.2.2.2.1 q h1 h2, fun q hq => by
      rcases List.mem_append.mp hq with h | h
      · exact hSt.2.2.2.2 q h
      · exact hA1 _ (hL' q h)⟩
    obtain ⟨t2, a1, b1⟩ := kk w nu T'.heap (locs ++ L') hq ⟨by rw [e1]; exact hp, zwl_D hSt.2.1, hS'⟩ T' rfl X'
    refine ⟨t2, hgo t2 ?_, b1⟩
    have hg : F0 m (pc + 3) ls ((zps w rest).map (zcv al)) = { F0 m pc ls st with pc := (F0 m pc ls st).pc + 3, stack := (zrv al w).toList ++ rest.map (zcv al) } := by
      unfold zps zrv
      by_cases hw : w.1 = 3
      · rw [if_pos hw, if_pos hw]
        rfl
      · rw [if_neg hw, if_neg hw]
        rfl
    rw [← hg]
    exact a1
theorem zt_get (C : zCt own cc nL p s m args c D cy) {idx ci j : Nat} {k : Int} {v : AV} {rest : List Value} (hSt : zSt A s D (zwl K al cy mu) H locs) (hd : decode cc pc = .ok (.getfield idx, 3)) (ho : zOb K ci k) (hf : zFL own idx ci j) (hv : zfv al mu ci k.toNat j = zcv al v)
    (kk : W p l e R s m args below meth c H locs cells slots Q (F0 m (pc + 3) ls (zcv al v :: rest))) : W p l e R s m args below meth c H locs cells slots Q (F0 m pc ls (zcv al (zR k) :: rest)) := by
  obtain ⟨Cn, T, N, h1, h2, h3, h4⟩ := hf
  have hN := zcl_n ci ho.2.2.2 _ h1
  refine va_get C.1 C.2.1 C.2.2.2.2.1 h4 C.2.2.2.1 C.2.2.2.2.2.1.1 hSt.1 k.toNat ho.cell h1 j h2 (C.2.2.2.2.1 _ h3) (fun _ h => h) (zfs_at ho (by rw [← hN]; exact h2)) hd ?_
  rw [hv]
  exact kk
theorem zt_iast (C : zCt own cc nL p s m args c D cy) {n : Nat} {k i v : Int} {rest : List Value} (hSt : zSt A s D (zwl K al cy mu) H locs) (hd : decode cc pc = .ok (.iastore, 1)) (ha : zAr K 11 k n) (h0 : 0 ≤ i) (h1 : i < n)
    (kk : ∀ (H1 : Heap) (locs1 : List Loc), zSt A s D (zwl K al cy (zup mu k i v)) H1 locs1 → W p l e R s m args below meth c H1 locs1 cells slots Q (F0 m (pc + 1) ls rest)) : W p l e R s m args below meth c H locs cells slots Q (F0 m pc ls (zcv al (zI v) :: zcv al (zI i) :: zcv al (zR k) :: rest)) := by
  obtain ⟨q1, q2⟩ := zidx h0 h1 ha.le
  refine va_iast C.1 C.2.1 C.2.2.2.2.2.1.1 hSt.1 hSt.2.1 hSt.2.2 k.toNat 1 ha.cell rfl q1 hd (fun H1 locs1 hP1 _ hS1 => ?_)
  rw [q2, zupf h0, zwl_set ha.2.1 (zce_11 ha) (fun k' hk' j' => (zup_cell mu (by have := ha.1; omega)).symm)] at hP1
  exact kk H1 locs1 ⟨hP1, zwl_D hSt.2.1, hS1⟩
end S83
section S83b
variable {p : Program} {l : Launch} {e : Env} {R : Room} {s : State} {m : MethodId} {args : Array Value} {below : List Frame} {meth : Method} {c : Code} {D : va_G} {cy : Nat → ClassId} {Y : MI} {A : Nat → Prop} {ws : va_W} {H : Heap} {locs : List Loc} {cells slots pc : Nat} {ls : Array Slot} {rest : List Value} {Q : State → Prop}
theorem zn_newq (C : zCi Y p s m args meth c D cy) (hSt : zSt A s D ws H locs) (hA : ∀ q, s.heap.size ≤ q → A q) {idx : Nat} (hcl : Cond.classLink Y.1.cls idx RX6 ∈ zTB) {n : Int32} {N' : Nat} (hn : ¬ n < 0) (hN : n.toNatClampNeg = N') (hbytes : N' * 4 ≤ 536870912) (hcells : cells + 1 ≤ R.cells) (hslots : slots + N' ≤ R.slots) (hdg : decode Y.2.1 pc = .ok (.anewarray idx, 3))
    (kk : ∀ (q : Nat) (H1 : Heap), zSt A s D (ws ++ [(q, .inl (cy 3, N', .inr (.inr (.inr (.inr (fun _ => none))))))]) H1 locs → W p l e R s m args below meth c H1 locs (cells + 1) (slots + N') Q (F0 m (pc + 3) ls (.ref q :: rest))) : W p l e R s m args below meth c H locs cells slots Q (F0 m pc ls (.int n :: rest)) := by
  have hK := C.2.2.2.2.2.2.2.1.1.1
  refine va_newq C.1 C.2.1 C.2.2.2.2.1 (C.w hcl) C.2.2.2.2.2.2.2.1.2.2 hK hSt.1 hSt.2.1 hSt.2.2 hA hn hN hbytes hcells hslots hdg (fun q cA H1 hK1 hP1 hD1 hS1 => ?_)
  obtain ⟨-, -, -, -, -, e1⟩ := (hK.2 3 (cy 3, .object RX6) rfl).2
  obtain ⟨-, -, -, -, -, e2⟩ := (hK1.2 4 (cA, .object RX6) (by rw [List.getElem?_append_right (Nat.le_refl 4)]; rfl)).2
  have e : cA = cy 3 := Option.some.inj (e2.symm.trans e1)
  subst e
  exact kk q H1 ⟨hP1, hD1, hS1⟩
theorem zn_astq (C : zCi Y p s m args meth c D cy) (hSt : zSt A s D ws H locs) (q0 qk : Nat) {a n v : Nat} {vs : List Value} {f : Nat → Option Nat} (ha : ws[q0]? = some (a, .inl (cy 3, n, .inr (.inr (.inr (.inr f)))))) (hv : ws[qk]? = some (v, .inr (6, vs))) {i : Int32} {i0 : Nat} (hi0 : i.toNatClampNeg = i0) (hin : vp_in i n) (hdg : decode Y.2.1 pc = .ok (.aastore, 1))
    (kk : ∀ (H1 : Heap) (locs1 : List Loc), zSt A s D (ws.set q0 (a, .inl (cy 3, n, .inr (.inr (.inr (.inr (va_up f i0 (some v)))))))) H1 locs1 → W p l e R s m args below meth c H1 locs1 cells slots Q (F0 m (pc + 1) ls rest)) : W p l e R s m args below meth c H locs cells slots Q (F0 m pc ls (.ref v :: .int i :: .ref a :: rest)) := by
  subst hi0
  exact
  va_astq C.1 C.2.1 C.2.2.2.2.2.2.2.1.1.1 hSt.1 hSt.2.1 hSt.2.2 q0 3 qk 6 (r := (RX6, TX6, 5)) ha rfl hv rfl hin hdg (fun H1 locs1 a b d => kk H1 locs1 ⟨a, b, d⟩)
end S83b
