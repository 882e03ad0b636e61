/-! a light logic over one flat memory: every cell of class and reference has a number, every int, long and reference is an Int -/
abbrev AV : Type := Nat × Int
abbrev Mem : Type := Int → Int → Int
def z32 (x : Int) : Int32 := Int32.ofInt x
def z64 (x : Int) : Int64 := Int64.ofInt x
abbrev zI (x : Int) : AV := (0, x)
abbrev zJ (x : Int) : AV := (1, x)
abbrev zR (k : Int) : AV := (2, k)
abbrev zU : AV := (9, 0)
abbrev zV : AV := (3, 0)
def zcv (al : Nat → Nat) (v : AV) : Value := match v.1 with
  | 0 => .int (z32 v.2)
  | 1 => .long (z64 v.2)
  | _ => .ref (al v.2.toNat)
def zrv (al : Nat → Nat) (v : AV) : Option Value := if v.1 = 3 then none else some (zcv al v)
def zps (v : AV) (r : List AV) : List AV := if v.1 = 3 then r else v :: r
def zin (x : Int) : Prop := -2147483648 ≤ x ∧ x < 2147483648
def zil (x : Int) : Prop := -9223372036854775808 ≤ x ∧ x < 9223372036854775808
theorem z32_add (a b : Int) : z32 (a + b) = z32 a + z32 b := by unfold z32; exact Int32.ofInt_add ..
theorem z32_sub (a b : Int) : z32 (a - b) = z32 a - z32 b := by unfold z32; exact Int32.ofInt_sub ..
theorem z32_mul (a b : Int) : z32 (a * b) = z32 a * z32 b := by unfold z32; exact Int32.ofInt_mul ..
theorem z64_add (a b : Int) : z64 (a + b) = z64 a + z64 b := by unfold z64; exact Int64.ofInt_add ..
theorem z64_sub (a b : Int) : z64 (a - b) = z64 a - z64 b := by unfold z64; exact Int64.ofInt_sub ..
theorem z64_mul (a b : Int) : z64 (a * b) = z64 a * z64 b := by unfold z64; exact Int64.ofInt_mul ..
theorem z32_toInt {x : Int} (h : zin x) : (z32 x).toInt = x := by
  obtain ⟨h1, h2⟩ := h
  unfold z32
  rw [Int32.toInt_ofInt]
  show Int.bmod x (2 ^ 32) = x
  rw [Int.bmod_def]
  omega
theorem z64_toInt {x : Int} (h : zil x) : (z64 x).toInt = x := by
  obtain ⟨h1, h2⟩ := h
  unfold z64
  rw [Int64.toInt_ofInt]
  show Int.bmod x (2 ^ 64) = x
  rw [Int.bmod_def]
  omega
theorem z32_of (x : Int32) : z32 x.toInt = x := by unfold z32; exact Int32.ofInt_toInt x
theorem z64_of (x : Int64) : z64 x.toInt = x := by unfold z64; exact Int64.ofInt_toInt x
theorem zin_toInt (x : Int32) : zin x.toInt := ⟨Int32.le_toInt x, Int32.toInt_lt x⟩
theorem zil_toInt (x : Int64) : zil x.toInt := ⟨Int64.le_toInt x, Int64.toInt_lt x⟩
theorem z32_lt {a b : Int} (ha : zin a) (hb : zin b) : z32 a < z32 b ↔ a < b := by rw [Int32.lt_iff_toInt_lt, z32_toInt ha, z32_toInt hb]
theorem z32_le {a b : Int} (ha : zin a) (hb : zin b) : z32 a ≤ z32 b ↔ a ≤ b := by rw [Int32.le_iff_toInt_le, z32_toInt ha, z32_toInt hb]
theorem z32_eq {a b : Int} (ha : zin a) (hb : zin b) : z32 a = z32 b ↔ a = b := by rw [← Int32.toInt_inj, z32_toInt ha, z32_toInt hb]
theorem z64_lt {a b : Int} (ha : zil a) (hb : zil b) : z64 a < z64 b ↔ a < b := by rw [Int64.lt_iff_toInt_lt, z64_toInt ha, z64_toInt hb]
theorem z64_eq {a b : Int} (ha : zil a) (hb : zil b) : z64 a = z64 b ↔ a = b := by rw [← Int64.toInt_inj, z64_toInt ha, z64_toInt hb]
theorem zin_0 : zin 0 := by unfold zin; decide
theorem z32_0 : (0 : Int32) = z32 0 := rfl
/-! the cells: number, kind (0 to 9 an object of that class, 10 bytes, 11 ints, 12 longs, 13 Standings), how many -/
def zkl : List (Nat × Nat) := [(8, 13), (10, 300), (4, 2), (11, 4),
  (2, 15), (11, 6), (11, 10), (11, 42), (11, 6), (11, 6), (11, 6), (11, 6), (11, 6),
  (2, 15), (11, 6), (11, 10), (11, 42), (11, 6), (11, 6), (11, 6), (11, 6), (11, 6),
  (6, 5), (11, 6), (11, 6), (11, 6), (11, 10),
  (13, 2), (6, 5), (11, 6), (11, 6), (11, 6), (11, 10), (6, 5), (11, 6), (11, 6), (11, 6), (11, 10),
  (3, 3), (11, 10), (11, 10), (11, 16),
  (1, 5), (11, 10), (11, 10), (11, 7168),
  (7, 6), (11, 12), (11, 12), (11, 539), (11, 7),
  (5, 4), (11, 10), (12, 539), (12, 539), (12, 6),
  (0, 5), (11, 6), (6, 5), (11, 6), (11, 6), (11, 6), (11, 10), (12, 601),
  (9, 35), (11, 300), (11, 2), (11, 2), (11, 2), (11, 12), (11, 2), (11, 20), (11, 84), (11, 12), (11, 2), (11, 12), (11, 36), (11, 54), (11, 3), (11, 30), (11, 4), (11, 16), (11, 65536), (11, 704), (11, 12), (11, 12), (11, 10), (12, 704), (12, 704), (12, 704), (11, 18), (11, 6), (12, 601)]
/-- fields by class and slot: -1 an int, -2 a reference that changes, else how far behind the object its cell stands -/
def zst : List (List Int) := [[-1, -1, 1, 2, 7], [1, -1, -1, 2, 3], [-1, -1, -1, -1, -1, 1, 2, 3, 4, 5, 6, 7, 8, -1, -1], [1, 2, 3], [1, -1], [1, 2, 3, 4], [1, 2, 3, 4, -1], [1, 2, -1, -1, 3, 4],
  [1, -1, 2, -2, -2, 22, 27, -1, 38, 42, 46, 51, 56],
  [-1, 1, 2, 3, 4, 5, 6, 7, 8, 9, 10, 11, 12, 13, 14, 15, -1, -1, 16, -1, -1, 17, -1, 18, 19, -1, 20, 21, 22, 23, 24, 25, 26, 27, 28]]
def zkd (k : Nat) : Nat := (zkl.getD k (99, 0)).1
def zln (k : Nat) : Nat := (zkl.getD k (99, 0)).2
def zsl (ci j : Nat) : Int := (zst.getD ci []).getD j (-1)
def zfv (al : Nat → Nat) (mu : Mem) (ci k j : Nat) : Value := if zsl ci j = -1 then .int (z32 (mu k j)) else if zsl ci j = -2 then .ref (al (mu k j).toNat) else .ref (al (k + (zsl ci j).toNat))
def zce (al : Nat → Nat) (cy : Nat → ClassId) (mu : Mem) (k : Nat) : va_E :=
  if zkd k = 10 then .inl (cy 0, zln k, .inl (fun j => z32 (mu k j)))
  else if zkd k = 11 then .inl (cy 1, zln k, .inl (fun j => z32 (mu k j)))
  else if zkd k = 12 then .inl (cy 2, zln k, .inr (.inl (fun j => z64 (mu k j))))
  else if zkd k = 13 then .inl (cy 3, zln k, .inr (.inr (.inr (.inr (fun j => some (al (k + 1 + 5 * j)))))))
  else .inr (zkd k, (List.range (zln k)).map (zfv al mu (zkd k) k))
def zwl (K : Nat) (al : Nat → Nat) (cy : Nat → ClassId) (mu : Mem) : va_W := (List.range K).map (fun k => (al k, zce al cy mu k))
theorem zwl_get {K : Nat} {al : Nat → Nat} {cy : Nat → ClassId} {mu : Mem} {k : Nat} (h : k < K) : (zwl K al cy mu)[k]? = some (al k, zce al cy mu k) := by simp [zwl, h]
theorem zwl_at {K : Nat} {al : Nat → Nat} {cy : Nat → ClassId} {mu : Mem} {k : Nat} {q : Nat × va_E} (h : (zwl K al cy mu)[k]? = some q) : k < K ∧ q = (al k, zce al cy mu k) := by
  have hk : k < (zwl K al cy mu).length := (List.getElem?_eq_some_iff.mp h).1
  have hk : k < K := by simpa [zwl] using hk
  rw [zwl_get hk] at h
  exact ⟨hk, (Option.some.inj h).symm⟩
theorem zce_congr {al : Nat → Nat} {cy : Nat → ClassId} {mu nu : Mem} {k : Nat} (h : ∀ j : Int, mu k j = nu k j) : zce al cy mu k = zce al cy nu k := by
  have h2 : mu (k : Int) = nu (k : Int) := funext h
  have h3 : zfv al mu (zkd k) k = zfv al nu (zkd k) k := by
    funext j
    simp only [zfv, h2]
  simp only [zce, h2, h3]
theorem zwl_set {K : Nat} {al : Nat → Nat} {cy : Nat → ClassId} {mu nu : Mem} {k : Nat} {e : va_E} (hk : k < K) (he : zce al cy nu k = e) (ho : ∀ k' : Nat, k' ≠ k → ∀ j : Int, mu k' j = nu k' j) : (zwl K al cy mu).set k (al k, e) = zwl K al cy nu := by
  apply List.ext_getElem?
  intro i
  by_cases hi : i = k
  · subst hi
    rw [List.getElem?_set_self (by simpa [zwl] using hk), zwl_get hk, he]
  · rw [List.getElem?_set_ne (Ne.symm hi)]
    by_cases hl : i < K
    · rw [zwl_get hl, zwl_get hl, zce_congr (ho i hi)]
    · rw [List.getElem?_eq_none (by simpa [zwl] using hl), List.getElem?_eq_none (by simpa [zwl] using hl)]
def zup (mu : Mem) (k j v : Int) : Mem := fun a b => if a = k ∧ b = j then v else mu a b
theorem zup_same (mu : Mem) (k j v : Int) : zup mu k j v k j = v := by simp [zup]
theorem zup_cell (mu : Mem) {k j v a b : Int} (h : a ≠ k) : zup mu k j v a b = mu a b := by simp [zup, h]
theorem zup_slot (mu : Mem) {k j v a b : Int} (h : b ≠ j) : zup mu k j v a b = mu a b := by simp [zup, h]
/-- an array cell (kind, length); an object cell -/
def zAr (K kd : Nat) (k : Int) (n : Nat) : Prop := 0 ≤ k ∧ k.toNat < K ∧ zkd k.toNat = kd ∧ zln k.toNat = n
def zOb (K ci : Nat) (k : Int) : Prop := 0 ≤ k ∧ k.toNat < K ∧ zkd k.toNat = ci ∧ ci < 10
theorem zAr.mk {K kd n : Nat} {k : Int} {B : Nat} (hK : B ≤ K) (h0 : 0 ≤ k) (h1 : k.toNat < B) (h2 : zkd k.toNat = kd) (h3 : zln k.toNat = n) : zAr K kd k n := ⟨h0, Nat.lt_of_lt_of_le h1 hK, h2, h3⟩
theorem zOb.mk {K ci : Nat} {k : Int} {B : Nat} (hK : B ≤ K) (h0 : 0 ≤ k) (h1 : k.toNat < B) (h2 : zkd k.toNat = ci) (h3 : ci < 10) : zOb K ci k := ⟨h0, Nat.lt_of_lt_of_le h1 hK, h2, h3⟩
theorem zAr.cell {K n : Nat} {k : Int} {al : Nat → Nat} {cy : Nat → ClassId} {mu : Mem} (h : zAr K 11 k n) : (zwl K al cy mu)[k.toNat]? = some (al k.toNat, .inl (cy 1, n, .inl (fun j => z32 (mu k j)))) := by
  obtain ⟨h0, h1, h2, h3⟩ := h
  have hk : ((k.toNat : Nat) : Int) = k := by omega
  rw [zwl_get h1, zce, if_neg (by omega), if_pos h2, h3, hk]
theorem zAr.cellB {K n : Nat} {k : Int} {al : Nat → Nat} {cy : Nat → ClassId} {mu : Mem} (h : zAr K 10 k n) : (zwl K al cy mu)[k.toNat]? = some (al k.toNat, .inl (cy 0, n, .inl (fun j => z32 (mu k j)))) := by
  obtain ⟨h0, h1, h2, h3⟩ := h
  have hk : ((k.toNat : Nat) : Int) = k := by omega
  rw [zwl_get h1, zce, if_pos h2, h3, hk]
theorem zAr.cellJ {K n : Nat} {k : Int} {al : Nat → Nat} {cy : Nat → ClassId} {mu : Mem} (h : zAr K 12 k n) : (zwl K al cy mu)[k.toNat]? = some (al k.toNat, .inl (cy 2, n, .inr (.inl (fun j => z64 (mu k j))))) := by
  obtain ⟨h0, h1, h2, h3⟩ := h
  have hk : ((k.toNat : Nat) : Int) = k := by omega
  rw [zwl_get h1, zce, if_neg (by omega), if_neg (by omega), if_pos h2, h3, hk]
theorem zAr.cellQ {K n : Nat} {k : Int} {al : Nat → Nat} {cy : Nat → ClassId} {mu : Mem} (h : zAr K 13 k n) : (zwl K al cy mu)[k.toNat]? = some (al k.toNat, .inl (cy 3, n, .inr (.inr (.inr (.inr (fun j => some (al (k.toNat + 1 + 5 * j)))))))) := by
  obtain ⟨h0, h1, h2, h3⟩ := h
  rw [zwl_get h1, zce, if_neg (by omega), if_neg (by omega), if_neg (by omega), if_pos h2, h3]
theorem zOb.cell {K ci : Nat} {k : Int} {al : Nat → Nat} {cy : Nat → ClassId} {mu : Mem} (h : zOb K ci k) : (zwl K al cy mu)[k.toNat]? = some (al k.toNat, .inr (ci, (List.range (zln k.toNat)).map (zfv al mu ci k.toNat))) := by
  obtain ⟨h0, h1, h2, h3⟩ := h
  rw [zwl_get h1, zce, if_neg (by omega), if_neg (by omega), if_neg (by omega), if_neg (by omega), h2]
/-! the words; the context of a frame; the judgement; the contract -/
def zNW : List (String × Nat × MethodName × String) := [(RX0, 44, yX8_majority, RX8), (RX2, 68, yX8_within, RX8), (RX3, 37, yX8_givesFor, RX8), (RX5, 66, yX8_givesBehind, RX8)]
def zKK (D : va_G) (cy : Nat → ClassId) (U : State) : Prop := va_K D vwCl [(cy 0, .byte), (cy 1, .int), (cy 2, .long), (cy 3, .object "LastThree$Standing")] U ∧ ∀ q ∈ zNW, va_Nw (.methodLinkNest q.1 q.2.1 q.2.2.1 q.2.2.2) U
theorem zKK.warm {D : va_G} {cy : Nat → ClassId} {s U : State} (hW : s.WarmedH U.vm) (h : zKK D cy s) : zKK D cy U := ⟨va_K.moved hW.alike h.1, fun q hq => va_Nw.warmM hW (h.2 q hq)⟩
theorem zKK.same {D : va_G} {cy : Nat → ClassId} {s U : State} (hv : s.vm = U.vm) (h : zKK D cy s) : zKK D cy U := ⟨va_K.moved (hv ▸ Vm.Alike.refl s.vm) h.1, fun q hq => va_Nw.same rfl hv (h.2 q hq)⟩
def zws (Y : MI) : List Cond := .code Y.1 Y.2.1 Y.2.2.1 Y.2.2.2 :: zTB
def zrm (d : Nat) : Room := { frames := d, cells := 0, slots := 0, locals := 100 * d }
def zA (K : Nat) (al : Nat → Nat) (sz : Nat) : Nat → Prop := fun q => (∃ k : Nat, k < K ∧ q = al k) ∨ sz ≤ q
def zCx (K : Nat) (Y : MI) (p : Program) (s : State) (m : MethodId) (args : Array Value) (meth : Method) (c : Code) (D : va_G) (cy : Nat → ClassId) (al : Nat → Nat) : Prop :=
  p.tables.exec = Jvm.exec ∧ c.code = Y.2.1 ∧ c.maxLocals = Y.2.2.1 ∧ meth.sig.returnType = Y.2.2.2 ∧ s.vm.findClass Y.1.cls = some m.cls ∧ (∀ w ∈ zws Y, w.before args s = true) ∧ meth.locks = false ∧ zKK D cy s ∧ ∀ i j : Nat, i < K → j < K → al i = al j → i = j
def zQ (K : Nat) (D : va_G) (cy : Nat → ClassId) (al : Nat → Nat) (sz : Nat) (Q : AV → Mem → Prop) : Array Value → State → Outcome → State → Prop := fun _ st oc t =>
  (∃ (v : AV) (mu : Mem), oc = .returned (zrv al v) ∧ Q v mu ∧ va_P D vwCl (zwl K al cy mu) t.heap) ∧ va_F (zA K al sz) st t
def zok (al : Nat → Nat) (L : List AV) (n : Nat) (ls : Array Slot) : Prop := ls.size = n ∧ lv_wf ls ∧ ∀ (i : Nat) (v : AV), L[i]? = some v → v.1 < 3 → ls[i]? = some (.val (zcv al v))
def zG (K d : Nat) (Y : MI) (pc : Nat) (L st : List AV) (mu : Mem) (Q : AV → Mem → Prop) : Prop :=
  ∀ (p : Program) (l : Launch) (e : Env) (s : State) (m : MethodId) (args : Array Value) (below : List Frame) (meth : Method) (c : Code) (D : va_G) (cy : Nat → ClassId) (al : Nat → Nat), zCx K Y p s m args meth c D cy al →
  ∀ (H : Heap) (locs : List Loc) (ls : Array Slot), va_P D vwCl (zwl K al cy mu) H → va_S (zA K al s.heap.size) s.heap H locs → zok al L Y.2.2.1 ls →
  W p l e (zrm d) s m args below meth c H locs 0 0 (MQ below (zQ K D cy al s.heap.size Q) args s 0 0 (zA K al s.heap.size)) (F0 m pc ls (st.map (zcv al)))
def zC (K d : Nat) (Y : MI) (av : List AV) (mu : Mem) (Q : AV → Mem → Prop) : Prop :=
  ∀ (l : Launch) (D : va_G) (cy : Nat → ClassId) (al : Nat → Nat) (sz : Nat), (∀ i j : Nat, i < K → j < K → al i = al j → i = j) →
  Met l Y.1 (zws Y) (zrm d) (va_Pc (av.map (zcv al)) (fun U => U.heap.size = sz ∧ va_P D vwCl (zwl K al cy mu) U.heap ∧ zKK D cy U)) (zQ K D cy al sz Q) 0 0 (zA K al sz)
theorem zD {K : Nat} {al : Nat → Nat} {cy : Nat → ClassId} {mu : Mem} {sz : Nat} (h : ∀ i j : Nat, i < K → j < K → al i = al j → i = j) : va_D (zA K al sz) (zwl K al cy mu) := by
  refine ⟨fun i j p q hi hj hpq => ?_, fun k q hk => ?_⟩
  · obtain ⟨h1, rfl⟩ := zwl_at hi
    obtain ⟨h2, rfl⟩ := zwl_at hj
    exact h i j h1 h2 hpq
  · obtain ⟨h1, rfl⟩ := zwl_at hk
    exact Or.inl ⟨k, h1, rfl⟩
