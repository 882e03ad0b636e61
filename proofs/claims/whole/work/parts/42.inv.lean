/-! orders and strangers as functions; the invariant that ties class and reference -/
def zmx (f : Nat → Int) : Nat → Int
  | 0 => -1
  | n + 1 => max (zmx f n) (f n)
def zmn (f : Nat → Int) : Nat → Int
  | 0 => 100
  | n + 1 => min (zmn f n) (f n)
def zbr (kind : Int) (w : Int → Int) (set : Nat) (v a b : Int) (i : Nat) : Int :=
  if v < 0 ∨ (set.testBit i = true ∧ ¬ zgb kind a b (w i) = w i) then -1 else v + (if zgb kind a b (w i) = w i then 1 else 0)
/-- the most that those left can have (below 0: it can't be) -/
def zOv (kind : Int) (n : Nat) (w : Int → Int) (set : Nat) : Nat → Nat → Int → Int → Int
  | 0, _, _, _ => 0
  | m + 1, come, a, b => zmx (fun i => if come.testBit i = true then -1 else zbr kind w set (zOv kind n w set m (come ||| 2 ^ i) b (w i)) a b i) n
/-- who comes first of those by whom most have it -/
def zpk (kind : Int) (n : Nat) (w : Int → Int) (set m come : Nat) (a b : Int) : Int :=
  zfirst (fun i => !come.testBit i.toNat && decide (zbr kind w set (zOv kind n w set m (come ||| 2 ^ i.toNat) b (w i)) a b i.toNat = zOv kind n w set (m + 1) come a b)) n 0
def zOl (kind : Int) (n : Nat) (w : Int → Int) (set : Nat) : Nat → Nat → Int → Int → List Int
  | 0, _, _, _ => []
  | m + 1, come, a, b => zpk kind n w set m come a b :: zOl kind n w set m (come ||| 2 ^ (zpk kind n w set m come a b).toNat) b (w (zpk kind n w set m come a b))
/-- the cost when the i-th comes at once; the fewest strangers from the i-th on, r of the queue being left -/
def zat (kind : Int) (w : Int → Int) (set : Nat) (f : Int → Int → Int) (i : Nat) (a b : Int) : Int := if set.testBit i = true ∧ ¬ zgb kind a b (w i) = w i then 100 else f b (w i)
def zNd (kind : Int) (t n : Nat) (w : Int → Int) (set : Nat) : Nat → Int → Int → Int
  | 0, _, _ => 0
  | r + 1, a, b => min (min (zat kind w set (zNd kind t n w set r) (n - (r + 1)) a b) (zmn (fun x => zmn (fun y => zat kind w set (zNd kind t n w set r) (n - (r + 1)) x y) t) t + 2)) (zmn (fun x => zat kind w set (zNd kind t n w set r) (n - (r + 1)) b x) t + 1)
/-- the first stranger to come ahead of the next of the queue; the bound if none -/
def zfs (kind : Int) (t n : Nat) (w : Int → Int) (set r : Nat) (a b : Int) : Int :=
  zfirst (fun x => decide (zNd kind t n w set (r + 1) b x + 1 = zNd kind t n w set (r + 1) a b)) (if zat kind w set (zNd kind t n w set r) (n - (r + 1)) a b = zNd kind t n w set (r + 1) a b then (w ((n - (r + 1) : Nat) : Int)).toNat else t) 0
def zfb (kind : Int) (t n : Nat) (w : Int → Int) (set r : Nat) (a b : Int) : Int := if zat kind w set (zNd kind t n w set r) (n - (r + 1)) a b = zNd kind t n w set (r + 1) a b then w ((n - (r + 1) : Nat) : Int) else t
def zSl (kind : Int) (t n : Nat) (w : Int → Int) (set : Nat) : Nat → Nat → Int → Int → List (Int × Int)
  | 0, _, _, _ => []
  | _ + 1, 0, _, _ => []
  | f + 1, r + 1, a, b => if zfs kind t n w set r a b < zfb kind t n w set r a b then (zfs kind t n w set r a b, ((n - (r + 1) : Nat) : Int)) :: zSl kind t n w set f (r + 1) b (zfs kind t n w set r a b)
    else zSl kind t n w set f r b (w ((n - (r + 1) : Nat) : Int))
abbrev zsg (N x : Int) : Prop := (0 ≤ x ∧ x < N) ∨ x = 6
/-- the plan at P is the reference's book 0 -/
def jPl (mu : Mem) (P : Int) : Prop :=
  (mu P 0 = mu 66 0 ∧ 2 ≤ mu P 0 ∧ mu P 0 ≤ 6) ∧ (mu P 1 = mu 67 0 ∧ 0 ≤ mu P 1 ∧ mu P 1 ≤ 3) ∧ (mu P 2 = mu 68 0 ∧ 0 ≤ mu P 2 ∧ mu P 2 ≤ 6) ∧ (mu P 3 = mu 70 0 ∧ 1 ≤ mu P 3 ∧ mu P 3 ≤ 10) ∧ (mu P 4 = mu 74 0 ∧ 0 ≤ mu P 4 ∧ mu P 4 ≤ 6) ∧
  (∀ i, 0 ≤ i → i < mu P 2 → mu (P + 1) i = mu 69 i ∧ 0 ≤ mu 69 i ∧ mu 69 i < mu P 0) ∧ (∀ i, 0 ≤ i → i < mu P 3 → mu (P + 2) i = mu 71 i ∧ 0 ≤ mu 71 i ∧ mu 71 i < mu P 0) ∧
  (∀ i, 0 ≤ i → i < 42 → mu (P + 3) i = mu 72 i ∧ 0 ≤ mu 72 i ∧ mu 72 i ≤ 9) ∧ (∀ i, 0 ≤ i → i < 6 → mu (P + 4) i = mu 73 i ∧ 0 ≤ mu 73 i ∧ mu 73 i ≤ 9) ∧ (∀ i, 0 ≤ i → i < mu P 4 → mu (P + 5) i = mu 75 i ∧ 0 ≤ mu 75 i ∧ mu 75 i < mu P 4)
/-- the standing at S is the reference's book b: net and gifts, of N things and m posts -/
def jSt (mu : Mem) (N m S b : Int) : Prop :=
  (∀ p, 0 ≤ p → p < m → (mu (S + 1) p = mu 77 (18 * b + 3 * p) ∧ zsg N (mu 77 (18 * b + 3 * p))) ∧ (mu (S + 2) p = mu 77 (18 * b + 3 * p + 1) ∧ zsg N (mu 77 (18 * b + 3 * p + 1))) ∧ (mu (S + 3) p = mu 77 (18 * b + 3 * p + 2) ∧ zsg N (mu 77 (18 * b + 3 * p + 2)))) ∧
  (mu S 4 = mu 78 b ∧ 0 ≤ mu S 4 ∧ mu S 4 ≤ 10) ∧ ∀ i, 0 ≤ i → i < mu S 4 → mu (S + 4) i = mu 79 (10 * b + i) ∧ zsg N (mu 79 (10 * b + i))
def jTx (mu : Mem) : Prop := (mu 0 1 = mu 64 0 ∧ 0 ≤ mu 0 1 ∧ mu 0 1 ≤ 300) ∧ ∀ i, 0 ≤ i → i < mu 0 1 → mu 1 i = (mu 65 i).bmod 256 ∧ 0 ≤ mu 65 i ∧ mu 65 i < 256
def jKp (mu : Mem) (N m : Int) : Prop := (mu 0 7 = mu 64 16 ∧ 0 ≤ mu 0 7 ∧ mu 0 7 ≤ 2) ∧ (1 ≤ mu 0 7 → jSt mu N m 28 1) ∧ (2 ≤ mu 0 7 → jSt mu N m 33 2)
/-- what the finders remember -/
def jOr (mu : Mem) (P : Int) : Prop := mu 42 2 = -1 ∨ (0 ≤ mu 42 2 ∧ mu 42 2 < 2 ^ (mu P 3).toNat ∧ mu 42 1 = zOv (mu P 1) (mu P 3).toNat (mu (P + 2)) (mu 42 2).toNat (mu P 3).toNat 0 (zab mu P 2) (zab mu P 1) ∧
  (0 ≤ mu 42 1 → ∀ i, 0 ≤ i → i < mu P 3 → mu 43 i = (zOl (mu P 1) (mu P 3).toNat (mu (P + 2)) (mu 42 2).toNat (mu P 3).toNat 0 (zab mu P 2) (zab mu P 1)).getD i.toNat 0))
def jSr (mu : Mem) (P : Int) : Prop := mu 46 3 = -1 ∨ (0 ≤ mu 46 3 ∧ mu 46 3 < 2 ^ (mu P 3).toNat ∧ mu 46 2 = (zSl (mu P 1) (mu P 0).toNat (mu P 3).toNat (mu (P + 2)) (mu 46 3).toNat 22 (mu P 3).toNat (zab mu P 2) (zab mu P 1)).length ∧ mu 46 2 ≤ 12 ∧
  ∀ i, 0 ≤ i → i < mu 46 2 → (mu 47 i, mu 48 i) = (zSl (mu P 1) (mu P 0).toNat (mu P 3).toNat (mu (P + 2)) (mu 46 3).toNat 22 (mu P 3).toNat (zab mu P 2) (zab mu P 1)).getD i.toNat (0, 0))
def jPD (mu : Mem) (P : Int) : Prop := mu 0 3 = P ∧ ((P = 4 ∧ mu 0 4 = 13) ∨ (P = 13 ∧ mu 0 4 = 4))
def jJ (mu : Mem) (P : Int) : Prop := jPD mu P ∧ jPl mu P ∧ jSt mu (mu P 0) (mu P 4) 22 0 ∧ jTx mu ∧ jKp mu (mu P 0) (mu P 4) ∧ jOr mu P ∧ jSr mu P
theorem jPD.isP {mu : Mem} {P : Int} {K : Nat} (h : jPD mu P) (hK : 64 ≤ K) : isP K P := ⟨hK, by rcases h.2 with h | h <;> omega⟩
/-- agreement outside of some cells -/
def zsm (X : List Int) (mu nu : Mem) : Prop := ∀ k, k ∉ X → nu k = mu k
theorem zsm.rf {X : List Int} {mu : Mem} : zsm X mu mu := fun _ _ => rfl
theorem zsm.tr {X : List Int} {mu nu xi : Mem} (h1 : zsm X mu nu) (h2 : zsm X nu xi) : zsm X mu xi := fun k hk => (h2 k hk).trans (h1 k hk)
theorem zsm.wk {X Y : List Int} {mu nu : Mem} (h : zsm X mu nu) (hs : ∀ k ∈ X, k ∈ Y) : zsm Y mu nu := fun k hk => h k (fun q => hk (hs k q))
theorem zsm.up {X : List Int} {mu nu : Mem} {k j v : Int} (h : zsm X mu nu) (hk : k ∈ X) : zsm X mu (zup nu k j v) := fun a ha => by
  rw [← h a ha]
  funext b
  exact zup_cell nu (fun q => ha (by rw [q]; exact hk))
theorem zsm.cp {X : List Int} {mu nu : Mem} {ks kd sp dp n : Int} (h : zsm X mu nu) (hk : kd ∈ X) : zsm X mu (zcp nu ks kd sp dp n) := fun a ha => by
  rw [← h a ha]
  funext b
  unfold zcp
  rw [if_neg (fun q => ha (by rw [q.1]; exact hk))]
/-- the class's scratch cells (rail, guesses, net, reader's numbers) and the reference's -/
def zXs : List Int := [2, 3, 39, 40, 41, 44, 45, 49, 50, 52, 53, 54, 55, 56, 57, 58, 59, 60, 61, 62, 63]
def zMs : List Int := [80, 81, 82, 83, 84, 85, 86, 87, 88, 89, 90, 91, 92]
/-- of the reference's own fields only length and keptMany count -/
def zsm' (X : List Int) (mu nu : Mem) : Prop := (∀ k, k ∉ X → k ≠ 64 → nu k = mu k) ∧ nu 64 0 = mu 64 0 ∧ nu 64 16 = mu 64 16
theorem zsm.pr {X : List Int} {mu nu : Mem} (h : zsm X mu nu) (h64 : (64 : Int) ∉ X) : zsm' X mu nu := ⟨fun k hk _ => h k hk, by rw [h 64 h64], by rw [h 64 h64]⟩
theorem zsm'.tr {X : List Int} {mu nu xi : Mem} (h1 : zsm' X mu nu) (h2 : zsm' X nu xi) : zsm' X mu xi := ⟨fun k hk h => (h2.1 k hk h).trans (h1.1 k hk h), h2.2.1.trans h1.2.1, h2.2.2.trans h1.2.2⟩
theorem zsm'.up {X : List Int} {mu nu : Mem} {k j v : Int} (h : zsm' X mu nu) (hk : k ∈ X) (h64 : k ≠ 64) : zsm' X mu (zup nu k j v) := ⟨fun a ha h6 => by
  rw [← h.1 a ha h6]
  funext b
  exact zup_cell nu (fun q => ha (by rw [q]; exact hk)), by rw [zup_cell nu (Ne.symm h64)]; exact h.2.1, by rw [zup_cell nu (Ne.symm h64)]; exact h.2.2⟩
theorem zsm'.up64 {X : List Int} {mu nu : Mem} {j v : Int} (h : zsm' X mu nu) (h0 : j ≠ 0) (h16 : j ≠ 16) : zsm' X mu (zup nu 64 j v) := ⟨fun a ha h6 => by
  rw [← h.1 a ha h6]
  funext b
  exact zup_cell nu h6, by rw [zup_slot nu (Ne.symm h0)]; exact h.2.1, by rw [zup_slot nu (Ne.symm h16)]; exact h.2.2⟩
theorem zab_congr {mu nu : Mem} {P b : Int} (h1 : nu P = mu P) (h2 : nu (P + 1) = mu (P + 1)) : zab nu P b = zab mu P b := by simp only [zab, h1, h2]
/-- the invariant speaks of no scratch cell -/
theorem jJ.same {mu nu : Mem} {P : Int} (h : jJ mu P) (hs : zsm' (zXs ++ zMs) mu nu) : jJ nu P := by
  have hP : P = 4 ∨ P = 13 := by rcases h.1.2 with h | h <;> omega
  have e : ∀ k : Int, k ∉ zXs ++ zMs → k ≠ 64 → nu k = mu k := hs.1
  have e0 : nu 0 = mu 0 := e 0 (by decide) (by decide)
  have p0 : nu P = mu P := by rcases hP with rfl | rfl <;> exact e _ (by decide) (by decide)
  have p1 : nu (P + 1) = mu (P + 1) := by rcases hP with rfl | rfl <;> exact e _ (by decide) (by decide)
  have p2 : nu (P + 2) = mu (P + 2) := by rcases hP with rfl | rfl <;> exact e _ (by decide) (by decide)
  have p3 : nu (P + 3) = mu (P + 3) := by rcases hP with rfl | rfl <;> exact e _ (by decide) (by decide)
  have p4 : nu (P + 4) = mu (P + 4) := by rcases hP with rfl | rfl <;> exact e _ (by decide) (by decide)
  have p5 : nu (P + 5) = mu (P + 5) := by rcases hP with rfl | rfl <;> exact e _ (by decide) (by decide)
  have c66 : nu 66 = mu 66 := e 66 (by decide) (by decide)
  have c67 : nu 67 = mu 67 := e 67 (by decide) (by decide)
  have c68 : nu 68 = mu 68 := e 68 (by decide) (by decide)
  have c69 : nu 69 = mu 69 := e 69 (by decide) (by decide)
  have c70 : nu 70 = mu 70 := e 70 (by decide) (by decide)
  have c71 : nu 71 = mu 71 := e 71 (by decide) (by decide)
  have c72 : nu 72 = mu 72 := e 72 (by decide) (by decide)
  have c73 : nu 73 = mu 73 := e 73 (by decide) (by decide)
  have c74 : nu 74 = mu 74 := e 74 (by decide) (by decide)
  have c75 : nu 75 = mu 75 := e 75 (by decide) (by decide)
  have c77 : nu 77 = mu 77 := e 77 (by decide) (by decide)
  have c78 : nu 78 = mu 78 := e 78 (by decide) (by decide)
  have c79 : nu 79 = mu 79 := e 79 (by decide) (by decide)
  have c65 : nu 65 = mu 65 := e 65 (by decide) (by decide)
  have c1 : nu 1 = mu 1 := e 1 (by decide) (by decide)
  have c42 : nu 42 = mu 42 := e 42 (by decide) (by decide)
  have c43 : nu 43 = mu 43 := e 43 (by decide) (by decide)
  have c46 : nu 46 = mu 46 := e 46 (by decide) (by decide)
  have c47 : nu 47 = mu 47 := e 47 (by decide) (by decide)
  have c48 : nu 48 = mu 48 := e 48 (by decide) (by decide)
  have st : ∀ N m S b : Int, (S = 22 ∨ S = 28 ∨ S = 33) → jSt mu N m S b → jSt nu N m S b := fun N m S b hS hj => by
    have s0 : nu S = mu S := by rcases hS with rfl | rfl | rfl <;> exact e _ (by decide) (by decide)
    have s1 : nu (S + 1) = mu (S + 1) := by rcases hS with rfl | rfl | rfl <;> exact e _ (by decide) (by decide)
    have s2 : nu (S + 2) = mu (S + 2) := by rcases hS with rfl | rfl | rfl <;> exact e _ (by decide) (by decide)
    have s3 : nu (S + 3) = mu (S + 3) := by rcases hS with rfl | rfl | rfl <;> exact e _ (by decide) (by decide)
    have s4 : nu (S + 4) = mu (S + 4) := by rcases hS with rfl | rfl | rfl <;> exact e _ (by decide) (by decide)
    unfold jSt at hj ⊢
    rw [s0, s1, s2, s3, s4, c77, c78, c79]
    exact hj
  obtain ⟨h1, h2, h3, h4, h5, h6, h7⟩ := h
  refine ⟨?_, ?_, ?_, ?_, ?_, ?_, ?_⟩
  · unfold jPD at h1 ⊢
    rw [e0]
    exact h1
  · unfold jPl at h2 ⊢
    rw [p0, p1, p2, p3, p4, p5, c66, c67, c68, c69, c70, c71, c72, c73, c74, c75]
    exact h2
  · rw [p0]
    exact st _ _ _ _ (Or.inl rfl) h3
  · unfold jTx at h4 ⊢
    rw [e0, c1, c65, hs.2.1]
    exact h4
  · unfold jKp at h5 ⊢
    rw [e0, p0, hs.2.2]
    exact ⟨h5.1, fun q => st _ _ _ _ (Or.inr (Or.inl rfl)) (h5.2.1 q), fun q => st _ _ _ _ (Or.inr (Or.inr rfl)) (h5.2.2 q)⟩
  · unfold jOr at h6 ⊢
    rw [p0, p2, c42, c43, zab_congr p0 p1, zab_congr p0 p1]
    exact h6
  · unfold jSr at h7 ⊢
    rw [p0, p2, c46, c47, c48, zab_congr p0 p1, zab_congr p0 p1]
    exact h7
/-- an operation: class and reference answer alike, the invariant stays -/
def zOp (dX dM : Nat) (yx ym : MI) (as : List AV) : Prop := ∀ (mu : Mem) (P : Int), jJ mu P → zC 93 dX yx (zR 0 :: as) mu (fun v nu => ∃ r, zin r ∧ v = zI r ∧ zC 93 dM ym (zR 64 :: as) nu (fun v' nu' => v' = zI r ∧ ∃ P', jJ nu' P'))
def zOpJ (dX dM : Nat) (yx ym : MI) (as : List AV) : Prop := ∀ (mu : Mem) (P : Int), jJ mu P → zC 93 dX yx (zR 0 :: as) mu (fun v nu => ∃ r, zil r ∧ v = zJ r ∧ zC 93 dM ym (zR 64 :: as) nu (fun v' nu' => v' = zJ r ∧ ∃ P', jJ nu' P'))
