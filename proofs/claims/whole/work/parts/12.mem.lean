/-! rules: fields, arrays, calls, the entry -/
theorem zcl_n : ∀ ci, ci < 10 → ∀ q, vwCl[ci]? = some q → q.2.2 = (zst.getD ci []).length := by
  intro ci hc q hq
  match ci, hc, hq with
  | 0, _, hq => cases hq; rfl
  | 1, _, hq => cases hq; rfl
  | 2, _, hq => cases hq; rfl
  | 3, _, hq => cases hq; rfl
  | 4, _, hq => cases hq; rfl
  | 5, _, hq => cases hq; rfl
  | 6, _, hq => cases hq; rfl
  | 7, _, hq => cases hq; rfl
  | 8, _, hq => cases hq; rfl
  | 9, _, hq => cases hq; rfl
  | n + 10, hc, _ => exact absurd hc (by omega)
theorem zcl_l : ∀ k : Nat, k < 93 → zkd k < 10 → zln k = (zst.getD (zkd k) []).length := by decide +kernel
theorem zcl_k : ∀ k : Nat, 93 ≤ k → zkd k = 99 := by
  intro k hk
  unfold zkd
  rw [List.getD_eq_getElem?_getD, List.getElem?_eq_none (by show 93 ≤ k; exact hk)]
  rfl
theorem zOb.len {K ci : Nat} {k : Int} (h : zOb K ci k) : zln k.toNat = (zst.getD ci []).length := by
  obtain ⟨h0, h1, h2, h3⟩ := h
  have hk : k.toNat < 93 := by
    rcases Nat.lt_or_ge k.toNat 93 with h | h
    · exact h
    · rw [zcl_k _ h] at h2; omega
  rw [zcl_l _ hk (by omega), h2]
theorem zidx {i : Int} {n : Nat} (h0 : 0 ≤ i) (h1 : i < n) (hn : n ≤ 100000) : vp_in (z32 i) n ∧ (z32 i).toNatClampNeg = i.toNat := by
  have hi : (z32 i).toInt = i := z32_toInt ⟨by omega, by omega⟩
  exact ⟨vp_in_iff.mpr (by rw [hi]; exact ⟨h0, h1⟩), by show (z32 i).toInt.toNat = _; rw [hi]⟩
theorem zln_le : ∀ k : Nat, zln k ≤ 100000 := by
  intro k
  rcases Nat.lt_or_ge k 93 with h | h
  · have : ∀ k : Nat, k < 93 → zln k ≤ 100000 := by decide +kernel
    exact this k h
  · unfold zln
    rw [List.getD_eq_getElem?_getD, List.getElem?_eq_none (by show 93 ≤ k; exact h)]
    decide
theorem zAr.le {K kd n : Nat} {k : Int} (h : zAr K kd k n) : n ≤ 100000 := by rw [← h.2.2.2]; exact zln_le _
section ZM
variable {K d : Nat} {Y : MI} {pc : Nat} {L st : List AV} {mu : Mem} {Q : AV → Mem → Prop}
theorem zfs_at {al : Nat → Nat} {ci : Nat} {k : Int} {j : Nat} (h : zOb K ci k) (hj : j < (zst.getD ci []).length) : ((List.range (zln k.toNat)).map (zfv al mu ci k.toNat))[j]? = some (zfv al mu ci k.toNat j) := by
  rw [h.len, List.getElem?_map, List.getElem?_range hj]
  rfl
theorem g_get {idx ci j : Nat} {k : Int} {v : AV} (hd : decode Y.2.1 pc = .ok (.getfield idx, 3)) (ho : zOb K ci k) (hf : zFL Y.1.cls idx ci j) (hv : ∀ al : Nat → Nat, zfv al mu ci k.toNat j = zcv al v) (kk : zG K d Y (pc + 3) L (v :: st) mu Q) : zG K d Y pc L (zR k :: st) mu Q := by
  intro p l e s m args below meth c D cy al C H locs ls hP hS hL
  obtain ⟨Cn, T, N, h1, h2, h3, h4⟩ := hf
  have hN := zcl_n ci ho.2.2.2 _ h1
  refine va_get C.1 C.2.1 C.2.2.2.2.2.1 (fun w hw => List.mem_cons_of_mem _ (h4 w hw)) C.2.2.2.2.1 C.2.2.2.2.2.2.2.1.1 hP k.toNat ho.cell h1 j h2 (C.2.2.2.2.2.1 _ (List.mem_cons_of_mem _ h3)) (fun _ h => h) (zfs_at ho (by rw [← hN]; exact h2)) hd ?_
  rw [hv al]
  exact kk p l e s m args below meth c D cy al C H locs ls hP hS hL
theorem zkz {k : Int} (h : 0 ≤ k) : ((k.toNat : Nat) : Int) = k := by omega
theorem g_getI {idx ci j : Nat} {k : Int} (hd : decode Y.2.1 pc = .ok (.getfield idx, 3)) (ho : zOb K ci k) (hf : zFL Y.1.cls idx ci j) (hs : zsl ci j = -1) (kk : zG K d Y (pc + 3) L (zI (mu k j) :: st) mu Q) : zG K d Y pc L (zR k :: st) mu Q :=
  g_get hd ho hf (fun al => by rw [zfv, if_pos hs, zkz ho.1]; rfl) kk
theorem g_getM {idx ci j : Nat} {k : Int} (hd : decode Y.2.1 pc = .ok (.getfield idx, 3)) (ho : zOb K ci k) (hf : zFL Y.1.cls idx ci j) (hs : zsl ci j = -2) (kk : zG K d Y (pc + 3) L (zR (mu k j) :: st) mu Q) : zG K d Y pc L (zR k :: st) mu Q :=
  g_get hd ho hf (fun al => by rw [zfv, if_neg (by omega), if_pos hs, zkz ho.1]; rfl) kk
theorem g_getR {idx ci j : Nat} {k k' : Int} (hd : decode Y.2.1 pc = .ok (.getfield idx, 3)) (ho : zOb K ci k) (hf : zFL Y.1.cls idx ci j) (hs : 0 ≤ zsl ci j) (hk : k + zsl ci j = k') (kk : zG K d Y (pc + 3) L (zR k' :: st) mu Q) : zG K d Y pc L (zR k :: st) mu Q :=
  g_get hd ho hf (fun al => by
    rw [zfv, if_neg (by omega), if_neg (by omega)]
    show Value.ref _ = Value.ref _
    congr 2
    have := ho.1
    show k.toNat + (zsl ci j).toNat = k'.toNat
    omega) kk
theorem zset_fs {al : Nat → Nat} {ci : Nat} {k : Int} {j : Nat} {v : Int} {x : Value} (ho : zOb K ci k) (hj : j < (zst.getD ci []).length) (hx : zfv al (zup mu k j v) ci k.toNat j = x) : ((List.range (zln k.toNat)).map (zfv al mu ci k.toNat)).set j x = (List.range (zln k.toNat)).map (zfv al (zup mu k j v) ci k.toNat) := by
  apply List.ext_getElem?
  intro i
  by_cases hi : i = j
  · subst hi
    rw [List.getElem?_set_self (by rw [List.length_map, List.length_range, ho.len]; exact hj), zfs_at ho hj, hx]
  · rw [List.getElem?_set_ne (Ne.symm hi)]
    by_cases hl : i < (zst.getD ci []).length
    · rw [zfs_at ho hl, zfs_at ho hl]
      have e : mu k.toNat i = zup mu k j v k.toNat i := (zup_slot mu (by omega)).symm
      simp only [zfv, e]
    · rw [List.getElem?_eq_none (by rw [List.length_map, List.length_range, ho.len]; omega), List.getElem?_eq_none (by rw [List.length_map, List.length_range, ho.len]; omega)]
theorem zce_ob {al : Nat → Nat} {cy : Nat → ClassId} {ci : Nat} {k : Int} (ho : zOb K ci k) : zce al cy mu k.toNat = .inr (ci, (List.range (zln k.toNat)).map (zfv al mu ci k.toNat)) := by
  obtain ⟨h0, h1, h2, h3⟩ := ho
  rw [zce, if_neg (by omega), if_neg (by omega), if_neg (by omega), if_neg (by omega), h2]
theorem g_put {idx ci j : Nat} {k v : Int} {a : AV} {ty : FieldType} (hd : decode Y.2.1 pc = .ok (.putfield idx, 3)) (ho : zOb K ci k) (hf : zFP Y.1.cls idx ci j ty) (hn : ∀ al : Nat → Nat, narrow ty (zcv al a) = zcv al a ∧ fits ty (zcv al a) = true) (hv : ∀ al : Nat → Nat, zfv al (zup mu k j v) ci k.toNat j = zcv al a) (kk : zG K d Y (pc + 3) L st (zup mu k j v) Q) : zG K d Y pc L (a :: zR k :: st) mu Q := by
  intro p l e s m args below meth c D cy al C H locs ls hP hS hL
  obtain ⟨Cn, T, N, ty0, h1, h2, h3, h4, h5, h6, h7, h8⟩ := hf
  have hN := zcl_n ci ho.2.2.2 _ h1
  have hj : j < (zst.getD ci []).length := by rw [← hN]; exact h2
  refine va_put C.1 C.2.1 C.2.2.2.2.2.1 (fun w hw => List.mem_cons_of_mem _ (h4 w hw)) ty0 h5 h6 C.2.2.2.2.1 C.2.2.2.2.2.2.2.1.1 hP (zD C.2.2.2.2.2.2.2.2) hS k.toNat ho.cell h1 j h2 (C.2.2.2.2.2.1 _ (List.mem_cons_of_mem _ h3)) (fun _ h => h) h7 h8 (hn al).1 (hn al).2 (by rw [List.length_map, List.length_range, ho.len]; exact hj) hd (fun H1 locs1 hP1 _ hS1 => ?_)
  rw [zset_fs ho hj (hv al), zwl_set ho.2.1 (zce_ob ho) (fun k' hk' j' => (zup_cell mu (by have := ho.1; omega)).symm)] at hP1
  exact kk p l e s m args below meth c D cy al C H1 locs1 ls hP1 hS1 hL
theorem g_putI {idx ci j : Nat} {k v : Int} (hd : decode Y.2.1 pc = .ok (.putfield idx, 3)) (ho : zOb K ci k) (hf : zFP Y.1.cls idx ci j .int) (hs : zsl ci j = -1) (kk : zG K d Y (pc + 3) L st (zup mu k j v) Q) : zG K d Y pc L (zI v :: zR k :: st) mu Q :=
  g_put hd ho hf (fun al => ⟨rfl, rfl⟩) (fun al => by rw [zfv, if_pos hs, zkz ho.1, zup_same]; rfl) kk
theorem g_putM {idx ci j : Nat} {k v : Int} {Cn : String} (hd : decode Y.2.1 pc = .ok (.putfield idx, 3)) (ho : zOb K ci k) (hf : zFP Y.1.cls idx ci j (.object Cn)) (hs : zsl ci j = -2) (kk : zG K d Y (pc + 3) L st (zup mu k j v) Q) : zG K d Y pc L (zR v :: zR k :: st) mu Q :=
  g_put hd ho hf (fun al => ⟨rfl, rfl⟩) (fun al => by rw [zfv, if_neg (by omega), if_pos hs, zkz ho.1, zup_same]; rfl) kk
theorem g_iald {k i : Int} {n : Nat} (hd : decode Y.2.1 pc = .ok (.iaload, 1)) (ha : zAr K 11 k n) (h0 : 0 ≤ i) (h1 : i < n) (kk : zG K d Y (pc + 1) L (zI (mu k i) :: st) mu Q) : zG K d Y pc L (zI i :: zR k :: st) mu Q := by
  intro p l e s m args below meth c D cy al C H locs ls hP hS hL
  obtain ⟨q1, q2⟩ := zidx h0 h1 ha.le
  refine va_iald C.1 C.2.1 C.2.2.2.2.2.2.2.1.1 hP k.toNat 1 ha.cell rfl q1 hd ?_
  rw [q2, zkz h0]
  exact kk p l e s m args below meth c D cy al C H locs ls hP hS hL
theorem g_bald {k i : Int} {n : Nat} (hd : decode Y.2.1 pc = .ok (.baload, 1)) (ha : zAr K 10 k n) (h0 : 0 ≤ i) (h1 : i < n) (kk : zG K d Y (pc + 1) L (zI (mu k i) :: st) mu Q) : zG K d Y pc L (zI i :: zR k :: st) mu Q := by
  intro p l e s m args below meth c D cy al C H locs ls hP hS hL
  obtain ⟨q1, q2⟩ := zidx h0 h1 ha.le
  refine va_bald C.1 C.2.1 C.2.2.2.2.2.2.2.1.1 hP k.toNat 0 ha.cellB rfl q1 hd ?_
  rw [q2, zkz h0]
  exact kk p l e s m args below meth c D cy al C H locs ls hP hS hL
theorem g_lald {k i : Int} {n : Nat} (hd : decode Y.2.1 pc = .ok (.laload, 1)) (ha : zAr K 12 k n) (h0 : 0 ≤ i) (h1 : i < n) (kk : zG K d Y (pc + 1) L (zJ (mu k i) :: st) mu Q) : zG K d Y pc L (zI i :: zR k :: st) mu Q := by
  intro p l e s m args below meth c D cy al C H locs ls hP hS hL
  obtain ⟨q1, q2⟩ := zidx h0 h1 ha.le
  refine va_lald C.1 C.2.1 C.2.2.2.2.2.2.2.1.1 hP k.toNat 2 ha.cellJ rfl q1 hd ?_
  rw [q2, zkz h0]
  exact kk p l e s m args below meth c D cy al C H locs ls hP hS hL
theorem g_aald {k i k' : Int} {n : Nat} (hd : decode Y.2.1 pc = .ok (.aaload, 1)) (ha : zAr K 13 k n) (h0 : 0 ≤ i) (h1 : i < n) (hk : k + 1 + 5 * i = k') (kk : zG K d Y (pc + 1) L (zR k' :: st) mu Q) : zG K d Y pc L (zI i :: zR k :: st) mu Q := by
  intro p l e s m args below meth c D cy al C H locs ls hP hS hL
  obtain ⟨q1, q2⟩ := zidx h0 h1 ha.le
  refine va_aldq C.1 C.2.1 C.2.2.2.2.2.2.2.1.1 hP k.toNat 3 ha.cellQ rfl q1 hd ?_
  have he : k.toNat + 1 + 5 * (z32 i).toNatClampNeg = k'.toNat := by
    rw [q2]
    have := ha.1
    omega
  rw [he]
  exact kk p l e s m args below meth c D cy al C H locs ls hP hS hL
theorem g_alen {kd : Nat} {k : Int} {n : Nat} (hd : decode Y.2.1 pc = .ok (.arraylength, 1)) (ha : zAr K kd k n) (hk : kd = 10 ∨ kd = 11 ∨ kd = 12) (kk : zG K d Y (pc + 1) L (zI n :: st) mu Q) : zG K d Y pc L (zR k :: st) mu Q := by
  intro p l e s m args below meth c D cy al C H locs ls hP hS hL
  have hn : Int32.ofNat n = z32 (n : Int) := by
    unfold z32
    exact (Int32.ofInt_eq_ofNat).symm
  rcases hk with rfl | rfl | rfl
  · exact va_alen C.1 C.2.1 C.2.2.2.2.2.2.2.1.1 hP k.toNat 0 ha.cellB rfl hn hd (kk p l e s m args below meth c D cy al C H locs ls hP hS hL)
  · exact va_alen C.1 C.2.1 C.2.2.2.2.2.2.2.1.1 hP k.toNat 1 ha.cell rfl hn hd (kk p l e s m args below meth c D cy al C H locs ls hP hS hL)
  · exact va_alen C.1 C.2.1 C.2.2.2.2.2.2.2.1.1 hP k.toNat 2 ha.cellJ rfl hn hd (kk p l e s m args below meth c D cy al C H locs ls hP hS hL)
theorem zce_11 {al : Nat → Nat} {cy : Nat → ClassId} {k : Int} {n : Nat} (ha : zAr K 11 k n) : zce al cy mu k.toNat = .inl (cy 1, n, .inl (fun j => z32 (mu k j))) := by
  obtain ⟨h0, h1, h2, h3⟩ := ha
  rw [zce, if_neg (by omega), if_pos h2, h3, zkz h0]
theorem zce_10 {al : Nat → Nat} {cy : Nat → ClassId} {k : Int} {n : Nat} (ha : zAr K 10 k n) : zce al cy mu k.toNat = .inl (cy 0, n, .inl (fun j => z32 (mu k j))) := by
  obtain ⟨h0, h1, h2, h3⟩ := ha
  rw [zce, if_pos h2, h3, zkz h0]
theorem zce_12 {al : Nat → Nat} {cy : Nat → ClassId} {k : Int} {n : Nat} (ha : zAr K 12 k n) : zce al cy mu k.toNat = .inl (cy 2, n, .inr (.inl (fun j => z64 (mu k j)))) := by
  obtain ⟨h0, h1, h2, h3⟩ := ha
  rw [zce, if_neg (by omega), if_neg (by omega), if_pos h2, h3, zkz h0]
theorem zupf {k i v : Int} (h0 : 0 ≤ i) : upd (fun j : Nat => z32 (mu k j)) i.toNat (z32 v) = fun j : Nat => z32 (zup mu k i v k j) := by
  funext q
  by_cases hq : q = i.toNat
  · subst hq
    rw [zkz h0, zup_same]
    simp [upd]
  · rw [zup_slot mu (by omega)]
    simp [upd, hq]
theorem zupg {k i v : Int} (h0 : 0 ≤ i) : vp_updL (fun j : Nat => z64 (mu k j)) i.toNat (z64 v) = fun j : Nat => z64 (zup mu k i v k j) := by
  funext q
  by_cases hq : q = i.toNat
  · subst hq
    rw [zkz h0, zup_same]
    simp [vp_updL]
  · rw [zup_slot mu (by omega)]
    simp [vp_updL, hq]
theorem g_iast {k i v : Int} {n : Nat} (hd : decode Y.2.1 pc = .ok (.iastore, 1)) (ha : zAr K 11 k n) (h0 : 0 ≤ i) (h1 : i < n) (kk : zG K d Y (pc + 1) L st (zup mu k i v) Q) : zG K d Y pc L (zI v :: zI i :: zR k :: st) mu Q := by
  intro p l e s m args below meth c D cy al C H locs ls hP hS hL
  obtain ⟨q1, q2⟩ := zidx h0 h1 ha.le
  refine va_iast C.1 C.2.1 C.2.2.2.2.2.2.2.1.1 hP (zD C.2.2.2.2.2.2.2.2) hS k.toNat 1 ha.cell rfl q1 hd (fun H1 locs1 hP1 _ hS1 => ?_)
  rw [q2, zupf h0, zwl_set ha.2.1 (zce_11 ha) (fun k' hk' j' => (zup_cell mu (by have := ha.1; omega)).symm)] at hP1
  exact kk p l e s m args below meth c D cy al C H1 locs1 ls hP1 hS1 hL
theorem g_last {k i v : Int} {n : Nat} (hd : decode Y.2.1 pc = .ok (.lastore, 1)) (ha : zAr K 12 k n) (h0 : 0 ≤ i) (h1 : i < n) (kk : zG K d Y (pc + 1) L st (zup mu k i v) Q) : zG K d Y pc L (zJ v :: zI i :: zR k :: st) mu Q := by
  intro p l e s m args below meth c D cy al C H locs ls hP hS hL
  obtain ⟨q1, q2⟩ := zidx h0 h1 ha.le
  refine va_last C.1 C.2.1 C.2.2.2.2.2.2.2.1.1 hP (zD C.2.2.2.2.2.2.2.2) hS k.toNat 2 ha.cellJ rfl q1 hd (fun H1 locs1 hP1 _ hS1 => ?_)
  rw [q2, zupg h0, zwl_set ha.2.1 (zce_12 ha) (fun k' hk' j' => (zup_cell mu (by have := ha.1; omega)).symm)] at hP1
  exact kk p l e s m args below meth c D cy al C H1 locs1 ls hP1 hS1 hL
theorem g_bast {k i v : Int} {n : Nat} (hd : decode Y.2.1 pc = .ok (.bastore, 1)) (ha : zAr K 10 k n) (h0 : 0 ≤ i) (h1 : i < n) (kk : zG K d Y (pc + 1) L st (zup mu k i (v.bmod 256)) Q) : zG K d Y pc L (zI v :: zI i :: zR k :: st) mu Q := by
  intro p l e s m args below meth c D cy al C H locs ls hP hS hL
  obtain ⟨q1, q2⟩ := zidx h0 h1 ha.le
  refine va_bast C.1 C.2.1 C.2.2.2.2.2.2.2.1.1 hP (zD C.2.2.2.2.2.2.2.2) hS k.toNat 0 ha.cellB rfl q1 hd (fun H1 locs1 hP1 _ hS1 => ?_)
  rw [q2, vp_nar_byte, z32_b, zupf h0, zwl_set ha.2.1 (zce_10 ha) (fun k' hk' j' => (zup_cell mu (by have := ha.1; omega)).symm)] at hP1
  exact kk p l e s m args below meth c D cy al C H1 locs1 ls hP1 hS1 hL
def zcp (mu : Mem) (ks kd sp dp n : Int) : Mem := fun a b => if a = kd ∧ dp ≤ b ∧ b < dp + n then mu ks (sp + (b - dp)) else mu a b
theorem g_copy {idx : Nat} {ks kd sp dp n : Int} {n0 n1 : Nat} (hd : decode Y.2.1 pc = .ok (.invokestatic idx, 3)) (hl : Cond.methodLink Y.1.cls idx arraycopyName ∈ zTB) (hdep : 1 ≤ d) (hr : st = []) (h0 : zAr K 11 ks n0) (h1 : zAr K 11 kd n1) (hs : 0 ≤ sp) (hp : 0 ≤ dp) (hn : 0 ≤ n) (hs1 : sp + n ≤ n0) (hp1 : dp + n ≤ n1) (kk : zG K d Y (pc + 3) L st (zcp mu ks kd sp dp n) Q) : zG K d Y pc L (zI n :: zI dp :: zR kd :: zI sp :: zR ks :: st) mu Q := by
  intro p l e s m args below meth c D cy al C H locs ls hP hS hL
  have b0 := h0.le
  have b1 := h1.le
  have ts : ∀ x : Int, 0 ≤ x → x ≤ 100000 → (z32 x).toNatClampNeg = x.toNat ∧ ¬ z32 x < 0 := fun x hx0 hx1 => by
    have hi : (z32 x).toInt = x := z32_toInt ⟨by omega, by omega⟩
    refine ⟨by show (z32 x).toInt.toNat = _; rw [hi], ?_⟩
    rw [z32_0, z32_lt ⟨by omega, by omega⟩ zin_0]
    omega
  obtain ⟨s1, s2⟩ := ts sp hs (by omega)
  obtain ⟨p1, p2⟩ := ts dp hp (by omega)
  obtain ⟨n1', n2⟩ := ts n hn (by omega)
  subst hr
  refine va_copyi C.1 C.2.1 (C.2.2.1.trans hL.1.symm) C.2.2.2.2.1 (C.2.2.2.2.2.1 _ (List.mem_cons_of_mem _ hl)) (C.2.2.2.2.2.1 _ (List.mem_cons_of_mem _ zw_nat)) (C.2.2.2.2.2.1 _ (List.mem_cons_of_mem _ zw_sta)) (C.2.2.2.2.2.1 _ (List.mem_cons_of_mem _ zw_ini)) C.2.2.2.2.2.2.2.1.1 hP (zD C.2.2.2.2.2.2.2.2) hS ks.toNat kd.toNat 1 1 (ty := .int) h0.cell h1.cell rfl rfl rfl s2 p2 n2 (by rw [s1, n1']; omega) (by rw [p1, n1']; omega) (fun i _ => rfl) hdep ?_ hd (fun H1 locs1 hP1 _ hS1 => ?_)
  · show 0 + _ ≤ 100 * d
    refine Nat.le_trans ?_ (show 100 ≤ 100 * d by omega)
    decide +kernel
  · rw [s1, p1, n1', zwl_set (nu := zcp mu ks kd sp dp n) h1.2.1 ?_ ?_] at hP1
    · exact kk p l e s m args below meth c D cy al C H1 locs1 ls hP1 hS1 hL
    · rw [zce_11 h1]
      congr 4
      funext q
      unfold va_cpy zcp
      by_cases hq : dp.toNat ≤ q ∧ q < dp.toNat + n.toNat
      · rw [if_pos hq, if_pos ⟨rfl, by omega, by omega⟩]
        congr 2
        omega
      · rw [if_neg hq, if_neg (by omega)]
    · intro k' hk' j'
      unfold zcp
      rw [if_neg (by have := h1.1; omega)]
end ZM
