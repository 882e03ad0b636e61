/-! order: the reference, the operation -/
/-- the invariant when the finders remember anew -/
theorem jJ.fnd {mu nu : Mem} {P : Int} (h : jJ mu P) (hs : zsm' (zXs ++ zMs ++ [42, 43, 46, 47, 48]) mu nu) (g6 : jOr nu P) (g7 : jSr nu P) : jJ nu P := by
  have hP : P = 4 ∨ P = 13 := by rcases h.1.2 with h | h <;> omega
  have e : ∀ k : Int, k ∉ zXs ++ zMs ++ [42, 43, 46, 47, 48] → k ≠ 64 → nu k = mu k := hs.1
  have e0 : nu 0 = mu 0 := e 0 (by decide) (by decide)
  have p0 : nu P = mu P := by rcases hP with rfl | rfl <;> exact e _ (by decide) (by decide)
  have p1 : nu (P + 1) = mu (P + 1) := by rcases hP with rfl | rfl <;> exact e _ (by decide) (by decide)
  have p2 : nu (P + 2) = mu (P + 2) := by rcases hP with rfl | rfl <;> exact e _ (by decide) (by decide)
  have p3 : nu (P + 3) = mu (P + 3) := by rcases hP with rfl | rfl <;> exact e _ (by decide) (by decide)
  have p4 : nu (P + 4) = mu (P + 4) := by rcases hP with rfl | rfl <;> exact e _ (by decide) (by decide)
  have p5 : nu (P + 5) = mu (P + 5) := by rcases hP with rfl | rfl <;> exact e _ (by decide) (by decide)
  have c66 : nu 66 = mu 66 := e 66 (by decide) (by decide)
  have c67 : nu 67 = mu 67 := e 67 (by decide) (by decide)
  have c68 : nu 68 = mu 68 := e 68 (by decide) (by decide)
  have c69 : nu 69 = mu 69 := e 69 (by decide) (by decide)
  have c70 : nu 70 = mu 70 := e 70 (by decide) (by decide)
  have c71 : nu 71 = mu 71 := e 71 (by decide) (by decide)
  have c72 : nu 72 = mu 72 := e 72 (by decide) (by decide)
  have c73 : nu 73 = mu 73 := e 73 (by decide) (by decide)
  have c74 : nu 74 = mu 74 := e 74 (by decide) (by decide)
  have c75 : nu 75 = mu 75 := e 75 (by decide) (by decide)
  have c77 : nu 77 = mu 77 := e 77 (by decide) (by decide)
  have c78 : nu 78 = mu 78 := e 78 (by decide) (by decide)
  have c79 : nu 79 = mu 79 := e 79 (by decide) (by decide)
  have c65 : nu 65 = mu 65 := e 65 (by decide) (by decide)
  have c1 : nu 1 = mu 1 := e 1 (by decide) (by decide)
  have st : ∀ N m S b : Int, (S = 22 ∨ S = 28 ∨ S = 33) → jSt mu N m S b → jSt nu N m S b := fun N m S b hS hj => by
    have s0 : nu S = mu S := by rcases hS with rfl | rfl | rfl <;> exact e _ (by decide) (by decide)
    have s1 : nu (S + 1) = mu (S + 1) := by rcases hS with rfl | rfl | rfl <;> exact e _ (by decide) (by decide)
    have s2 : nu (S + 2) = mu (S + 2) := by rcases hS with rfl | rfl | rfl <;> exact e _ (by decide) (by decide)
    have s3 : nu (S + 3) = mu (S + 3) := by rcases hS with rfl | rfl | rfl <;> exact e _ (by decide) (by decide)
    have s4 : nu (S + 4) = mu (S + 4) := by rcases hS with rfl | rfl | rfl <;> exact e _ (by decide) (by decide)
    unfold jSt at hj ⊢
    rw [s0, s1, s2, s3, s4, c77, c78, c79]
    exact hj
  obtain ⟨h1, h2, h3, h4, h5, h6, h7⟩ := h
  refine ⟨?_, ?_, ?_, ?_, ?_, ?_, ?_⟩
  · unfold jPD at h1 ⊢
    rw [e0]
    exact h1
  · unfold jPl at h2 ⊢
    rw [p0, p1, p2, p3, p4, p5, c66, c67, c68, c69, c70, c71, c72, c73, c74, c75]
    exact h2
  · rw [p0]
    exact st _ _ _ _ (Or.inl rfl) h3
  · unfold jTx at h4 ⊢
    rw [e0, c1, c65, hs.2.1]
    exact h4
  · unfold jKp at h5 ⊢
    rw [e0, p0, hs.2.2]
    exact ⟨h5.1, fun q => st _ _ _ _ (Or.inr (Or.inl rfl)) (h5.2.1 q), fun q => st _ _ _ _ (Or.inr (Or.inr rfl)) (h5.2.2 q)⟩
  · exact g6
  · exact g7
theorem jOr.c {mu nu : Mem} {P : Int} (h : jOr mu P) (p0 : nu P = mu P) (p1 : nu (P + 1) = mu (P + 1)) (p2 : nu (P + 2) = mu (P + 2)) (c42 : nu 42 = mu 42) (c43 : nu 43 = mu 43) : jOr nu P := by
  unfold jOr at h ⊢
  rw [p0, p2, c42, c43, zab_congr p0 p1, zab_congr p0 p1]
  exact h
theorem jSr.c {mu nu : Mem} {P : Int} (h : jSr mu P) (p0 : nu P = mu P) (p1 : nu (P + 1) = mu (P + 1)) (p2 : nu (P + 2) = mu (P + 2)) (c46 : nu 46 = mu 46) (c47 : nu 47 = mu 47) (c48 : nu 48 = mu 48) : jSr nu P := by
  unfold jSr at h ⊢
  rw [p0, p2, c46, c47, c48, zab_congr p0 p1, zab_congr p0 p1]
  exact h
def znn (v : Int) : Int := if v < 0 then -4 else v
theorem znn_mx {x y : Int} (hx : -1 ≤ x) (hy : -1 ≤ y) : znn (max x y) = if znn y ≤ znn x then znn x else znn y := by
  unfold znn
  repeat' split
  all_goals omega
theorem zall {c n : Nat} (hc : c < 2 ^ n) : c = 2 ^ n - 1 ↔ ∀ i, i < n → c.testBit i = true := by
  constructor
  · intro h i hi
    rw [h, Nat.testBit_two_pow_sub_one]
    simp [hi]
  · intro h
    apply Nat.eq_of_testBit_eq
    intro i
    rw [Nat.testBit_two_pow_sub_one]
    by_cases hi : i < n
    · rw [h i hi]; simp [hi]
    · rw [Nat.testBit_lt_two_pow (Nat.lt_of_lt_of_le hc (Nat.pow_le_pow_right (by decide) (by omega)))]
      simp [hi]
theorem zcmn_n {c : Nat} : ∀ n, zcmn c n = n ↔ ∀ i, i < n → c.testBit i = true
  | 0 => ⟨fun _ i hi => absurd hi (by omega), fun _ => rfl⟩
  | n + 1 => by
    have ih := zcmn_n (c := c) n
    have le := zcmn_le (c := c) n
    rw [zcmn]
    constructor
    · intro h i hi
      by_cases q : c.testBit n = true
      · rw [if_pos q] at h
        by_cases e : i = n
        · rw [e]; exact q
        · exact ih.mp (by omega) i (by omega)
      · rw [if_neg q] at h
        omega
    · intro h
      rw [if_pos (h n (by omega)), ih.mpr (fun i hi => h i (by omega))]
theorem zor_gt {c i : Nat} (h : ¬ c.testBit i = true) : c < c ||| 2 ^ i := by
  have h1 : c ≤ c ||| 2 ^ i := Nat.left_le_or
  have h2 : c ≠ c ||| 2 ^ i := fun e => h (by
    have : (c ||| 2 ^ i).testBit i = true := by rw [zor_bit]; simp
    rw [e]
    exact this)
  omega
theorem zbr_cg {kind : Int} {w w' : Int → Int} {set : Nat} {v v' a b : Int} {i : Nat} (hv : v = v') (h : w i = w' i) : zbr kind w set v a b i = zbr kind w' set v' a b i := by
  unfold zbr
  rw [hv, h]
theorem zOv_congr {kind : Int} {n : Nat} {w w' : Int → Int} {set : Nat} (h : ∀ i : Nat, i < n → w i = w' i) : ∀ (m c : Nat) (a b : Int), zOv kind n w set m c a b = zOv kind n w' set m c a b
  | 0, _, _, _ => by rw [zOv, zOv]
  | m + 1, c, a, b => by
    rw [zOv, zOv]
    apply zmx_congr
    intro k hk
    by_cases q : c.testBit k = true
    · rw [if_pos q, if_pos q]
    · rw [if_neg q, if_neg q]
      exact zbr_cg (by rw [h k hk, zOv_congr h m]) (h k hk)
theorem zpk_congr {kind : Int} {n : Nat} {w w' : Int → Int} {set m c : Nat} {a b : Int} (h : ∀ i : Nat, i < n → w i = w' i) : zpk kind n w set m c a b = zpk kind n w' set m c a b := by
  unfold zpk
  apply zfirst_congr
  intro i i0 i1
  obtain ⟨k, rfl⟩ : ∃ k : Nat, i = k := ⟨i.toNat, by omega⟩
  have hk := h k (by omega)
  rw [zOv_congr h (m + 1), show ((k : Nat) : Int).toNat = k by omega, zbr_cg (v' := zOv kind n w' set m (c ||| 2 ^ k) b (w' k)) (by rw [hk, zOv_congr h m]) hk]
theorem zOl_congr {kind : Int} {n : Nat} {w w' : Int → Int} {set : Nat} (h : ∀ i : Nat, i < n → w i = w' i) : ∀ (m c : Nat) (a b : Int), 0 ≤ zOv kind n w set m c a b → zOl kind n w set m c a b = zOl kind n w' set m c a b
  | 0, _, _, _, _ => by rw [zOl, zOl]
  | m + 1, c, a, b, hv => by
    obtain ⟨I, I1, I2, I3, I4, I5⟩ := zpk_ok hv
    rw [zOl, zOl, ← zpk_congr h, I1, show ((I : Nat) : Int).toNat = I by omega, ← h I I2, zOl_congr h m]
    exact zbr_pos (kind := kind) (w := w) (set := set) (i := I) (a := a) (b := b) (by rw [I4]; exact hv)
/-- the reference's table from who has come c on, at c below the pair p -/
def zTo (mu nu : Mem) (S : Nat) (c : Int) (p : Int) : Prop := ∀ (c' : Nat) (a b : Int), c' < 2 ^ (mu 70 0).toNat → (0 ≤ a ∧ a ≤ 7) → (0 ≤ b ∧ b ≤ 7) → (c < c' ∨ (c = c' ∧ 8 * a + b < p)) → nu 82 (64 * c' + 8 * a + b) = znn (zOv (mu 67 0) (mu 70 0).toNat (mu 71) S ((mu 70 0).toNat - zcmn c' (mu 70 0).toNat) c' (ze a) (ze b))
/-- what the reference needs -/
def zRQ (mu : Mem) (S : Nat) : Prop := (2 ≤ mu 66 0 ∧ mu 66 0 ≤ 6) ∧ (mu 67 0 = 0 ∨ mu 67 0 = 3) ∧ (1 ≤ mu 70 0 ∧ mu 70 0 ≤ 10) ∧ (∀ i, 0 ≤ i → i < mu 70 0 → 0 ≤ mu 71 i ∧ mu 71 i < mu 66 0) ∧ S < 2 ^ (mu 70 0).toNat
section S67
variable {K d : Nat} {mu : Mem} {Q : AV → Mem → Prop}
theorem m_spot {i a b : Int} (hK : 93 ≤ K) (h : Q (zI (64 * i + 8 * a + b)) mu) : zC K d mX9_spot [zI i, zI a, zI b] mu Q := ce_X9_spot (sg_X9_spot_0 (by omega) hK h)
theorem m_bring {S c i m : Nat} {a b : Int} (hd : 2 ≤ d) (hK : 93 ≤ K) (hM : zRQ mu S) (hc : c < 2 ^ (mu 70 0).toNat) (hi : i < (mu 70 0).toNat) (ha : 0 ≤ a ∧ a ≤ 7) (hb : 0 ≤ b ∧ b ≤ 7)
    (hT : mu 82 (64 * ((c ||| 2 ^ i : Nat) : Int) + 8 * b + mu 71 i) = znn (zOv (mu 67 0) (mu 70 0).toNat (mu 71) S m (c ||| 2 ^ i) (ze b) (mu 71 i))) (hm : m ≤ 10)
    (h : Q (zI (znn (zbr (mu 67 0) (mu 71) S (zOv (mu 67 0) (mu 70 0).toNat (mu 71) S m (c ||| 2 ^ i) (ze b) (mu 71 i)) (ze a) (ze b) i))) mu) : zC K d mX9_bring [zR 64, zI S, zI c, zI a, zI b, zI i] mu Q := by
  obtain ⟨ht, hk, hn, hw, hS⟩ := hM
  have w := hw i (by omega) (by omega)
  have zb := zgb_bd (k := mu 67 0) (a := ze a) (b := ze b) (c := mu 71 i) (by unfold ze; split <;> omega) (by unfold ze; split <;> omega) (by omega)
  have vb := zOv_bd (kind := mu 67 0) (n := (mu 70 0).toNat) (w := mu 71) (set := S) m (c ||| 2 ^ i) (ze b) (mu 71 i)
  have c10 := zc10 (zor_lt hc hi) (by omega)
  have s10 := zc10 hS (by omega)
  refine ce_X9_bring (sg_X9_bring_0 hd hK ⟨by omega, by omega, m_shortly (by omega) hK hk ha ⟨hb.1, hb.2, fun _ => Or.inr trivial⟩ ⟨by omega, by omega⟩ ⟨_, rfl, ⟨by omega, by omega⟩, ⟨by omega, by omega⟩, fun g => ?_, fun g => ?_⟩⟩)
  · rw [zor_c hc (by omega) (by omega) (by omega), show ((i : Nat) : Int).toNat = i by omega]
    refine m_spot hK ⟨_, rfl, by omega, by omega, ?_⟩
    rw [hT]
    generalize zOv (mu 67 0) (mu 70 0).toNat (mu 71) S m (c ||| 2 ^ i) (ze b) (mu 71 i) = v at *
    unfold zbr at h
    refine ⟨by unfold znn; split <;> exact ⟨by omega, by omega⟩, fun q => ?_, fun q => ?_⟩
    · rw [if_pos (Or.inl (by unfold znn at q; split at q <;> omega))] at h
      exact h
    · have q2 : ¬ v < 0 := by unfold znn at q; split at q <;> omega
      have ev : znn v = v := by unfold znn; rw [if_neg q2]
      refine m_has hK (by omega) (by omega) ⟨_, rfl, zbin _, ?_⟩
      rw [show ((i : Nat) : Int).toNat = i by omega]
      refine ⟨fun u => ?_, fun u => ?_⟩
      · have ub : ¬ S.testBit i = true := fun z => by rw [if_pos z] at u; exact absurd u (by decide)
        rw [if_neg (fun z => by rcases z with z | z; exact q2 z; exact ub z.1), if_neg g] at h
        rw [ev]
        unfold znn at h
        rw [if_neg (by omega)] at h
        exact h
      · have ub : S.testBit i = true := by
          by_cases z : S.testBit i = true
          · exact z
          · rw [if_neg z] at u; exact absurd rfl u
        rw [if_pos (Or.inr ⟨ub, g⟩)] at h
        exact h
  · rw [zor_c hc (by omega) (by omega) (by omega), show ((i : Nat) : Int).toNat = i by omega]
    refine m_spot hK ⟨_, rfl, by omega, by omega, ?_⟩
    rw [hT]
    generalize zOv (mu 67 0) (mu 70 0).toNat (mu 71) S m (c ||| 2 ^ i) (ze b) (mu 71 i) = v at *
    unfold zbr at h
    refine ⟨by unfold znn; split <;> exact ⟨by omega, by omega⟩, fun q => ?_, fun q => ?_⟩
    · rw [if_pos (Or.inl (by unfold znn at q; split at q <;> omega))] at h
      exact h
    · have q2 : ¬ v < 0 := by unfold znn at q; split at q <;> omega
      have ev : znn v = v := by unfold znn; rw [if_neg q2]
      rw [if_neg (fun z => by rcases z with z | z; exact q2 z; exact z.2 g), if_pos g] at h
      rw [ev]
      unfold znn at h
      rw [if_neg (by omega)] at h
      exact m_has hK (by omega) (by omega) ⟨_, rfl, zbin _, fun _ => h, fun _ => h⟩
theorem zRQ.c {mu nu : Mem} {S : Nat} (h : zRQ mu S) (hz : zsm [82] mu nu) : zRQ nu S := by
  unfold zRQ at *
  rw [hz 66 (by decide), hz 67 (by decide), hz 70 (by decide), hz 71 (by decide)]
  exact h
theorem m_layOrders {S : Nat} (hd : 3 ≤ d) (hK : 93 ≤ K) (hM : zRQ mu S) (h : ∀ nu, zsm [82] mu nu → zTo mu nu S (-1) 0 → Q zV nu) : zC K d mX9_layOrders [zR 64, zI S] mu Q := by
  have hM0 := hM
  obtain ⟨ht, hk, hn, hw, hS⟩ := hM
  have pb := zpow_bd (n := mu 70 0) (by omega) (by omega)
  have pe : ((2 ^ (mu 70 0).toNat : Nat) : Int) = 2 ^ (mu 70 0).toNat := by rw [Int.natCast_pow]; rfl
  have hall : ((2 ^ (mu 70 0).toNat - 1 : Nat) : Int) = 2 ^ (mu 70 0).toNat - 1 := by omega
  -- the most over i
  have l53 : ∀ (c : Nat) (a b : Int), c < 2 ^ (mu 70 0).toNat → (0 ≤ a ∧ a ≤ 7) → (0 ≤ b ∧ b ≤ 7) → ∀ (nu : Mem), zsm [82] mu nu → zTo mu nu S c (8 * a + b) → (∀ xi, zsm [82] mu xi → zTo mu xi S c (8 * a + b + 1) → zG K d mX9_layOrders 30 [zR 64, zI S, zI ((2 ^ (mu 70 0).toNat - 1 : Nat) : Int), zI c, zI a, zI (b + 1), zU, zU, zU] [] xi Q) → ∀ (q i : Nat), i + q = (mu 70 0).toNat → zG K d mX9_layOrders 53 [zR 64, zI S, zI ((2 ^ (mu 70 0).toNat - 1 : Nat) : Int), zI c, zI a, zI b, zI (if c = 2 ^ (mu 70 0).toNat - 1 then 0 else znn (zmx (fun i => if c.testBit i = true then -1 else zbr (mu 67 0) (mu 71) S (zOv (mu 67 0) (mu 70 0).toNat (mu 71) S ((mu 70 0).toNat - zcmn c (mu 70 0).toNat - 1) (c ||| 2 ^ i) (ze b) (mu 71 i)) (ze a) (ze b) i) i)), zI i, zU] [] nu Q := by
    intro c a b hc ha hb nu hz hT kk q
    have e70 : nu 70 = mu 70 := hz 70 (by decide)
    have e67 : nu 67 = mu 67 := hz 67 (by decide)
    have e71 : nu 71 = mu 71 := hz 71 (by decide)
    have c10 := zc10 hc (by omega)
    have za := zall hc
    have zn := zcmn_n (c := c) (mu 70 0).toNat
    have zl := zcmn_le (c := c) (mu 70 0).toNat
    have fb : ∀ i : Nat, -1 ≤ (if c.testBit i = true then -1 else zbr (mu 67 0) (mu 71) S (zOv (mu 67 0) (mu 70 0).toNat (mu 71) S ((mu 70 0).toNat - zcmn c (mu 70 0).toNat - 1) (c ||| 2 ^ i) (ze b) (mu 71 i)) (ze a) (ze b) i) ∧ (if c.testBit i = true then -1 else zbr (mu 67 0) (mu 71) S (zOv (mu 67 0) (mu 70 0).toNat (mu 71) S ((mu 70 0).toNat - zcmn c (mu 70 0).toNat - 1) (c ||| 2 ^ i) (ze b) (mu 71 i)) (ze a) (ze b) i) ≤ 11 := fun i => by
      split
      · constructor <;> omega
      · have bb := zbr_bd (kind := mu 67 0) (w := mu 71) (set := S) (i := i) (a := ze a) (b := ze b) (zOv_bd (kind := mu 67 0) (n := (mu 70 0).toNat) (w := mu 71) (set := S) ((mu 70 0).toNat - zcmn c (mu 70 0).toNat - 1) (c ||| 2 ^ i) (ze b) (mu 71 i)).2 (by omega)
        omega
    have mb : ∀ i : Nat, -1 ≤ zmx (fun i => if c.testBit i = true then -1 else zbr (mu 67 0) (mu 71) S (zOv (mu 67 0) (mu 70 0).toNat (mu 71) S ((mu 70 0).toNat - zcmn c (mu 70 0).toNat - 1) (c ||| 2 ^ i) (ze b) (mu 71 i)) (ze a) (ze b) i) i ∧ zmx (fun i => if c.testBit i = true then -1 else zbr (mu 67 0) (mu 71) S (zOv (mu 67 0) (mu 70 0).toNat (mu 71) S ((mu 70 0).toNat - zcmn c (mu 70 0).toNat - 1) (c ||| 2 ^ i) (ze b) (mu 71 i)) (ze a) (ze b) i) i ≤ 11 := fun i => ⟨zmx_m1 i, zmx_le (by omega) i (fun k _ => (fb k).2)⟩
    have nb : ∀ v : Int, -1 ≤ v → v ≤ 11 → zin (znn v) ∧ -4 ≤ znn v := fun v h1 h2 => by
      unfold znn
      split <;> exact ⟨⟨by omega, by omega⟩, by omega⟩
    induction q with
    | zero =>
      intro i hi
      have ei : i = (mu 70 0).toNat := by omega
      subst ei
      refine sg_X9_layOrders_53 hd hK ⟨⟨by omega, by omega⟩, by rw [e70]; exact ⟨by omega, by omega⟩, fun _ => m_spot hK ⟨_, rfl, by omega, by omega, ?_⟩, fun w => absurd (by rw [e70]; omega) w⟩
      refine kk _ (hz.up (by simp)) (fun c' a' b' hc' ha' hb' hlt => ?_)
      by_cases same : 64 * (c' : Int) + 8 * a' + b' = 64 * c + 8 * a + b
      · have e1 : c' = c := by omega
        have e2 : a' = a := by omega
        have e3 : b' = b := by omega
        subst e1 e2 e3
        rw [zup_same]
        by_cases q : c' = 2 ^ (mu 70 0).toNat - 1
        · rw [if_pos q, zn.mpr (za.mp q), Nat.sub_self, zOv]
          rfl
        · rw [if_neg q]
          have : zcmn c' (mu 70 0).toNat ≠ (mu 70 0).toNat := fun u => q (za.mpr (zn.mp u))
          obtain ⟨m, hm⟩ : ∃ m, (mu 70 0).toNat - zcmn c' (mu 70 0).toNat = m + 1 := ⟨(mu 70 0).toNat - zcmn c' (mu 70 0).toNat - 1, by omega⟩
          rw [hm, zOv]
          rfl
      · rw [zup_slot _ same]
        exact hT c' a' b' hc' ha' hb' (by omega)
    | succ q ih =>
      intro i hi
      have nx := ih (i + 1) (by omega)
      refine sg_X9_layOrders_53 hd hK ⟨⟨by omega, by omega⟩, by rw [e70]; exact ⟨by omega, by omega⟩, fun w => absurd w (by rw [e70]; omega), fun _ => m_has hK (by omega) (by omega) ⟨_, rfl, zbin _, ?_⟩⟩
      rw [show ((i : Nat) : Int).toNat = i by omega]
      refine ⟨fun u => ?_, fun u => ?_⟩
      · have ub : ¬ c.testBit i = true := fun z => by rw [if_pos z] at u; exact absurd u (by decide)
        have hne : ¬ c = 2 ^ (mu 70 0).toNat - 1 := fun z => ub (za.mp z i (by omega))
        have hne2 : zcmn c (mu 70 0).toNat ≠ (mu 70 0).toNat := fun u => hne (za.mpr (zn.mp u))
        have cm := zcmn_or ub (mu 70 0).toNat
        rw [if_pos (show i < (mu 70 0).toNat by omega)] at cm
        have w := hw i (by omega) (by omega)
        have f := fb i
        rw [if_neg ub] at f
        have m1 := mb i
        rw [if_neg hne]
        rw [if_neg hne, zmx, if_neg ub, znn_mx m1.1 f.1] at nx
        have T := hT (c ||| 2 ^ i) b (mu 71 i) (zor_lt hc (by omega)) hb (by omega) (Or.inl (by have := zor_gt ub; omega))
        rw [ze_s (show mu 71 i < 6 by omega), show (mu 70 0).toNat - zcmn (c ||| 2 ^ i) (mu 70 0).toNat = (mu 70 0).toNat - zcmn c (mu 70 0).toNat - 1 by omega] at T
        refine m_bring (m := (mu 70 0).toNat - zcmn c (mu 70 0).toNat - 1) (by omega) hK (hM0.c hz) (by rw [e70]; exact hc) (by rw [e70]; omega) ha hb (by rw [e67, e70, e71]; exact T) (by omega) ⟨_, rfl, ?_⟩
        rw [e67, e70, e71]
        refine ⟨(nb _ f.1 f.2).1, (nb _ m1.1 m1.2).1, fun q => ?_, fun q => ?_⟩
        · rw [if_pos q] at nx
          exact nx
        · rw [if_neg q] at nx
          exact nx
      · have ub : c.testBit i = true := by
          by_cases z : c.testBit i = true
          · exact z
          · rw [if_neg z] at u; exact absurd rfl u
        have m1 := mb i
        have e : (if c = 2 ^ (mu 70 0).toNat - 1 then 0 else znn (zmx (fun i => if c.testBit i = true then -1 else zbr (mu 67 0) (mu 71) S (zOv (mu 67 0) (mu 70 0).toNat (mu 71) S ((mu 70 0).toNat - zcmn c (mu 70 0).toNat - 1) (c ||| 2 ^ i) (ze b) (mu 71 i)) (ze a) (ze b) i) (i + 1))) = (if c = 2 ^ (mu 70 0).toNat - 1 then 0 else znn (zmx (fun i => if c.testBit i = true then -1 else zbr (mu 67 0) (mu 71) S (zOv (mu 67 0) (mu 70 0).toNat (mu 71) S ((mu 70 0).toNat - zcmn c (mu 70 0).toNat - 1) (c ||| 2 ^ i) (ze b) (mu 71 i)) (ze a) (ze b) i) i)) := by
          rw [zmx, if_pos ub, Int.max_eq_left m1.1]
        rw [e] at nx
        have b2 : zin (if c = 2 ^ (mu 70 0).toNat - 1 then 0 else znn (zmx (fun i => if c.testBit i = true then -1 else zbr (mu 67 0) (mu 71) S (zOv (mu 67 0) (mu 70 0).toNat (mu 71) S ((mu 70 0).toNat - zcmn c (mu 70 0).toNat - 1) (c ||| 2 ^ i) (ze b) (mu 71 i)) (ze a) (ze b) i) i)) ∧ -4 ≤ (if c = 2 ^ (mu 70 0).toNat - 1 then 0 else znn (zmx (fun i => if c.testBit i = true then -1 else zbr (mu 67 0) (mu 71) S (zOv (mu 67 0) (mu 70 0).toNat (mu 71) S ((mu 70 0).toNat - zcmn c (mu 70 0).toNat - 1) (c ||| 2 ^ i) (ze b) (mu 71 i)) (ze a) (ze b) i) i)) := by
          by_cases z : c = 2 ^ (mu 70 0).toNat - 1
          · rw [if_pos z]; exact ⟨⟨by omega, by omega⟩, by omega⟩
          · rw [if_neg z]; exact nb _ m1.1 m1.2
        exact ⟨b2.1, fun _ => nx, fun z => absurd b2.2 z⟩
  have l30 : ∀ (c : Nat) (a : Int), c < 2 ^ (mu 70 0).toNat → (0 ≤ a ∧ a ≤ 7) → (∀ xi, zsm [82] mu xi → zTo mu xi S c (8 * (a + 1)) → zG K d mX9_layOrders 20 [zR 64, zI S, zI ((2 ^ (mu 70 0).toNat - 1 : Nat) : Int), zI c, zI (a + 1), zU, zU, zU, zU] [] xi Q) → ∀ (q : Nat) (b : Int) (nu : Mem), 0 ≤ b → b + q = 8 → zsm [82] mu nu → zTo mu nu S c (8 * a + b) → zG K d mX9_layOrders 30 [zR 64, zI S, zI ((2 ^ (mu 70 0).toNat - 1 : Nat) : Int), zI c, zI a, zI b, zU, zU, zU] [] nu Q := by
    intro c a hc ha kk q
    have c10 := zc10 hc (by omega)
    induction q with
    | zero =>
      intro b nu b0 b1 hz hT
      have eb : b = 8 := by omega
      subst eb
      refine sg_X9_layOrders_30 hd hK ⟨⟨by omega, by omega⟩, fun _ => kk nu hz ?_, fun w => absurd (by omega) w⟩
      rw [show 8 * (a + 1) = 8 * a + 8 by omega]
      exact hT
    | succ q ih =>
      intro b nu b0 b1 hz hT
      refine sg_X9_layOrders_30 hd hK ⟨⟨by omega, by omega⟩, fun w => absurd w (by omega), fun _ => ⟨⟨by omega, by omega⟩, ⟨by omega, by omega⟩, fun w => ?_, fun w => ?_⟩⟩
      · have := l53 c a b hc ha ⟨b0, by omega⟩ nu hz hT (fun xi hx hX => ih (b + 1) xi (by omega) (by omega) hx (by rw [show 8 * a + (b + 1) = 8 * a + b + 1 by omega]; exact hX)) (mu 70 0).toNat 0 (by omega)
        rw [if_neg (by omega)] at this
        exact this
      · have := l53 c a b hc ha ⟨b0, by omega⟩ nu hz hT (fun xi hx hX => ih (b + 1) xi (by omega) (by omega) hx (by rw [show 8 * a + (b + 1) = 8 * a + b + 1 by omega]; exact hX)) (mu 70 0).toNat 0 (by omega)
        rw [if_pos (by omega)] at this
        exact this
  have l20 : ∀ (c : Nat), c < 2 ^ (mu 70 0).toNat → (∀ xi, zsm [82] mu xi → zTo mu xi S ((c : Int) - 1) 0 → zG K d mX9_layOrders 13 [zR 64, zI S, zI ((2 ^ (mu 70 0).toNat - 1 : Nat) : Int), zI ((c : Int) + (-1)), zU, zU, zU, zU, zU] [] xi Q) → ∀ (q : Nat) (a : Int) (nu : Mem), 0 ≤ a → a + q = 8 → zsm [82] mu nu → zTo mu nu S c (8 * a) → zG K d mX9_layOrders 20 [zR 64, zI S, zI ((2 ^ (mu 70 0).toNat - 1 : Nat) : Int), zI c, zI a, zU, zU, zU, zU] [] nu Q := by
    intro c hc kk q
    induction q with
    | zero =>
      intro a nu a0 a1 hz hT
      have ea : a = 8 := by omega
      subst ea
      exact sg_X9_layOrders_20 hd hK ⟨⟨by omega, by omega⟩, fun _ => kk nu hz (fun c' a' b' hc' ha' hb' hlt => hT c' a' b' hc' ha' hb' (by omega)), fun w => absurd (by omega) w⟩
    | succ q ih =>
      intro a nu a0 a1 hz hT
      exact sg_X9_layOrders_20 hd hK ⟨⟨by omega, by omega⟩, fun w => absurd w (by omega), fun _ => l30 c a hc ⟨a0, by omega⟩ (fun xi hx hX => ih (a + 1) xi (by omega) (by omega) hx hX) 8 0 nu (by omega) (by omega) hz (by rw [show 8 * a + 0 = 8 * a by omega]; exact hT)⟩
  have l13 : ∀ (q : Nat) (c : Int) (nu : Mem), c + 1 = q → c < 2 ^ (mu 70 0).toNat → zsm [82] mu nu → zTo mu nu S c 0 → zG K d mX9_layOrders 13 [zR 64, zI S, zI ((2 ^ (mu 70 0).toNat - 1 : Nat) : Int), zI c, zU, zU, zU, zU, zU] [] nu Q := by
    intro q
    induction q with
    | zero =>
      intro c nu c0 c1 hz hT
      have ec : c = -1 := by omega
      subst ec
      exact sg_X9_layOrders_13 hd hK ⟨⟨by omega, by omega⟩, fun _ => h nu hz hT, fun w => absurd (by omega) w⟩
    | succ q ih =>
      intro c nu c0 c1 hz hT
      obtain ⟨k, rfl⟩ : ∃ k : Nat, c = k := ⟨c.toNat, by omega⟩
      refine sg_X9_layOrders_13 hd hK ⟨⟨by omega, by omega⟩, fun w => absurd w (by omega), fun _ => ?_⟩
      exact l20 k (by omega) (fun xi hx hX => ih ((k : Int) + (-1)) xi (by omega) (by omega) hx (by rw [show (k : Int) + (-1) = k - 1 by omega]; exact hX)) 8 0 nu (by omega) (by omega) hz (by rw [show 8 * (0 : Int) = 0 by omega]; exact hT)
  refine ce_X9_layOrders (sg_X9_layOrders_0 hd hK ?_)
  rw [zshl_1 (by omega) (by omega), ← hall]
  exact l13 (2 ^ (mu 70 0).toNat) _ mu (by omega) (by omega) zsm.rf (fun c' a' b' hc' ha' hb' hlt => absurd hlt (by omega))
end S67
