/-! rows: counts and weights as functions; the reference's tables -/
def zB (kind : Int) (t : Nat) (g sh : Int → Int) (m pl tl : Int) : Nat → Int → Int → Int
  | 0, _, _ => 1
  | r + 1, a, b => zsum (fun x => if (m - (r + 1) ≠ pl ∨ x = tl) ∧ zgb kind a b x = g (m - (r + 1)) then sh x * zB kind t g sh m pl tl r b x else 0) t
def zmx0 (f : Int → Int) : Nat → Int
  | 0 => 0
  | n + 1 => max (zmx0 f n) (f n)
def zWt (kind : Int) (t : Nat) (g sh : Int → Int) (m pl tl : Int) : Nat → Int → Int → Int
  | 0, _, _ => 1
  | r + 1, a, b => zmx0 (fun x => if (m - (r + 1) ≠ pl ∨ x = tl) ∧ zgb kind a b x = g (m - (r + 1)) then sh x * zWt kind t g sh m pl tl r b x else 0) t
def zs1 (sh : Int → Int) : Int → Int := fun x => if sh x ≤ 0 then 0 else 1
def ze (a : Int) : Int := if 6 ≤ a then 6 else a
def zshb (sh : Int → Int) : Prop := ∀ x, 0 ≤ x → x < 6 → 0 ≤ sh x ∧ sh x ≤ 9
theorem zsum_bd {f : Int → Int} {c : Int} (hc : 0 ≤ c) : ∀ n : Nat, (∀ i : Int, 0 ≤ i → i < n → 0 ≤ f i ∧ f i ≤ c) → 0 ≤ zsum f n ∧ zsum f n ≤ n * c
  | 0, _ => ⟨by simp [zsum], by simp [zsum]⟩
  | n + 1, h => by
    have h1 := zsum_bd hc n (fun i h0 h1 => h i h0 (by omega))
    have h2 := h n (by omega) (by omega)
    unfold zsum
    refine ⟨by omega, ?_⟩
    have : ((n + 1 : Nat) : Int) * c = n * c + c := by
      rw [show ((n + 1 : Nat) : Int) = (n : Int) + 1 from rfl, Int.add_mul, Int.one_mul]
    omega
theorem zmul_bd {a b A B : Int} (ha : 0 ≤ a ∧ a ≤ A) (hb : 0 ≤ b ∧ b ≤ B) : 0 ≤ a * b ∧ a * b ≤ A * B := ⟨Int.mul_nonneg ha.1 hb.1, Int.mul_le_mul ha.2 hb.2 hb.1 (by omega)⟩
theorem zB_bd {kind : Int} {t : Nat} {g sh : Int → Int} {m pl tl : Int} (ht : t ≤ 6) (hs : zshb sh) : ∀ (r : Nat) (a b : Int), 0 ≤ zB kind t g sh m pl tl r a b ∧ zB kind t g sh m pl tl r a b ≤ 54 ^ r
  | 0, _, _ => ⟨by simp [zB], by simp [zB]⟩
  | r + 1, a, b => by
    unfold zB
    have hp : (0 : Int) ≤ 54 ^ r := Int.le_trans (zB_bd (kind := kind) (g := g) (m := m) (pl := pl) (tl := tl) ht hs r 0 0).1 (zB_bd ht hs r 0 0).2
    have := zsum_bd (f := fun x => if (m - (r + 1) ≠ pl ∨ x = tl) ∧ zgb kind a b x = g (m - (r + 1)) then sh x * zB kind t g sh m pl tl r b x else 0) (c := 9 * 54 ^ r) (by omega) t (fun x x0 x1 => by
      split
      · exact zmul_bd (hs x x0 (by omega)) (zB_bd ht hs r b x)
      · exact ⟨by omega, by omega⟩)
    refine ⟨this.1, ?_⟩
    have e : (54 : Int) ^ (r + 1) = 6 * (9 * 54 ^ r) := by rw [Int.pow_succ]; omega
    have : (t : Int) * (9 * 54 ^ r) ≤ 6 * (9 * 54 ^ r) := Int.mul_le_mul_of_nonneg_right (by omega) (by omega)
    omega
theorem zmx0_bd {f : Int → Int} {c : Int} (hc : 0 ≤ c) : ∀ n : Nat, (∀ i : Int, 0 ≤ i → i < n → 0 ≤ f i ∧ f i ≤ c) → 0 ≤ zmx0 f n ∧ zmx0 f n ≤ c
  | 0, _ => ⟨by simp [zmx0], by simpa [zmx0] using hc⟩
  | n + 1, h => by
    have h1 := zmx0_bd hc n (fun i h0 h1 => h i h0 (by omega))
    have h2 := h n (by omega) (by omega)
    unfold zmx0
    constructor <;> omega
theorem zWt_bd {kind : Int} {t : Nat} {g sh : Int → Int} {m pl tl : Int} (ht : t ≤ 6) (hs : zshb sh) : ∀ (r : Nat) (a b : Int), 0 ≤ zWt kind t g sh m pl tl r a b ∧ zWt kind t g sh m pl tl r a b ≤ 9 ^ r
  | 0, _, _ => ⟨by simp [zWt], by simp [zWt]⟩
  | r + 1, a, b => by
    unfold zWt
    have hp : (0 : Int) ≤ 9 ^ r := Int.le_trans (zWt_bd (kind := kind) (g := g) (m := m) (pl := pl) (tl := tl) ht hs r 0 0).1 (zWt_bd ht hs r 0 0).2
    have e : (9 : Int) ^ (r + 1) = 9 * 9 ^ r := by rw [Int.pow_succ]; omega
    rw [e]
    exact zmx0_bd (by omega) t (fun x x0 x1 => by
      split
      · exact zmul_bd (hs x x0 (by omega)) (zWt_bd ht hs r b x)
      · exact ⟨by omega, by omega⟩)
theorem zs1_b {sh : Int → Int} : zshb (zs1 sh) := fun x _ _ => by
  unfold zs1
  split <;> omega
theorem z54 {r : Nat} (h : r ≤ 10) : (54 : Int) ^ r ≤ 210832519264920576 := by
  have : ∀ r : Nat, r ≤ 10 → (54 : Int) ^ r ≤ 210832519264920576 := by decide
  exact this r h
theorem z9p {r : Nat} (h : r ≤ 10) : (9 : Int) ^ r ≤ 3486784401 := by
  have : ∀ r : Nat, r ≤ 10 → (9 : Int) ^ r ≤ 3486784401 := by decide
  exact this r h
theorem z3_e {a b c : Int} (hc : c < 6) : z3 a b c = zmaj (ze a) (ze b) c := by
  unfold z3 zmaj ze
  repeat' split
  all_goals omega
section S55
variable {K d : Nat} {mu : Mem} {Q : AV → Mem → Prop}
theorem m_shortly {a b c : Int} (hd : 1 ≤ d) (hK : 93 ≤ K) (hk : mu 67 0 = 0 ∨ mu 67 0 = 3) (ha : 0 ≤ a ∧ a ≤ 7) (hb : 0 ≤ b ∧ b ≤ 7 ∧ (b = 6 → mu 67 0 = 0 ∨ True)) (hc : 0 ≤ c ∧ c < 6) (h : Q (zI (zgb (mu 67 0) (ze a) (ze b) c)) mu) : zC K d mX9_shortly [zR 64, zI a, zI b, zI c] mu Q := by
  unfold zgb at h
  refine ce_X9_shortly (sg_X9_shortly_0 (by omega) hK ⟨(by first | assumption | omega | exact ⟨by omega, by omega⟩ | (split <;> omega) | (unfold zin at *; omega)), ⟨fun c1 => ⟨(by first | assumption | omega | exact ⟨by omega, by omega⟩ | (split <;> omega) | (unfold zin at *; omega)), ⟨fun c2 => ?_, fun c2 => ?_⟩⟩, fun c1 => ?_⟩⟩)
  · rw [if_pos (by omega)] at h
    unfold ze at h
    split at h
    · rwa [show b = 6 by omega]
    · exact h
  · rw [if_pos (by omega)] at h
    unfold ze at h
    rwa [if_pos (by omega)] at h
  · rw [if_neg (by omega)] at h
    refine m_three hK ⟨by omega, by omega⟩ ⟨by omega, by omega⟩ ⟨by omega, by omega⟩ ⟨_, rfl, ?_⟩
    rw [z3_e hc.2]
    exact h
theorem m_isShort (hK : 93 ≤ K) (hk : zin (mu 67 0)) (h : Q (zI (if mu 67 0 = 0 ∨ mu 67 0 = 3 then 1 else 0)) mu) : zC K d mX9_isShort [zR 64] mu Q := by
  refine ce_X9_isShort (sg_X9_isShort_0 (by omega) hK ⟨(by first | assumption | omega | exact ⟨by omega, by omega⟩ | (split <;> omega) | (unfold zin at *; omega)), ⟨fun c1 => ?_, fun c1 => ⟨fun c2 => ?_, fun c2 => ?_⟩⟩⟩)
  · rwa [if_pos (by omega)] at h
  · rwa [if_neg (by omega)] at h
  · rwa [if_pos (by omega)] at h
theorem m_stand {i a b : Int} (hK : 93 ≤ K) (h : Q (zI (64 * i + 8 * a + b)) mu) : zC K d mX9_stand [zI i, zI a, zI b] mu Q := ce_X9_stand (sg_X9_stand_0 (by omega) hK h)
/-- what was asked last but k, 7 for none -/
def zlb (mu : Mem) (k : Int) : Int := if mu 68 0 ≤ k then 7 else mu 69 (mu 68 0 - 1 - k)
theorem m_lastBut {k : Int} (hK : 93 ≤ K) (hk : k = 0 ∨ k = 1) (hb : 0 ≤ mu 68 0 ∧ mu 68 0 ≤ 6) (h : Q (zI (zlb mu k)) mu) : zC K d mX9_lastBut [zR 64, zI k] mu Q := by
  unfold zlb at h
  refine ce_X9_lastBut (sg_X9_lastBut_0 (by omega) hK ⟨(by first | assumption | omega | exact ⟨by omega, by omega⟩ | (split <;> omega) | (unfold zin at *; omega)), (by first | assumption | omega | exact ⟨by omega, by omega⟩ | (split <;> omega) | (unfold zin at *; omega)), ⟨fun c1 => ?_, fun c1 => ⟨(by first | assumption | omega | exact ⟨by omega, by omega⟩ | (split <;> omega) | (unfold zin at *; omega)), (by first | assumption | omega | exact ⟨by omega, by omega⟩ | (split <;> omega) | (unfold zin at *; omega)), ?_⟩⟩⟩)
  · rwa [if_pos c1] at h
  · rwa [if_neg c1] at h
/-- the reference's tables from level i on, and at level i below k -/
def zT (mu nu : Mem) (pl tl : Int) (i k : Int) : Prop := ∀ i' k', 0 ≤ i' → i' ≤ mu 78 0 → 0 ≤ k' → k' < 64 → (i < i' ∨ (i' = i ∧ k' < k)) →
  nu 87 (64 * i' + k') = zB (mu 67 0) (mu 66 0).toNat (mu 79) (zs1 (mu 73)) (mu 78 0) pl tl (mu 78 0 - i').toNat (ze (k' / 8)) (ze (k' % 8)) ∧
  nu 88 (64 * i' + k') = zB (mu 67 0) (mu 66 0).toNat (mu 79) (mu 73) (mu 78 0) pl tl (mu 78 0 - i').toNat (ze (k' / 8)) (ze (k' % 8)) ∧
  nu 89 (64 * i' + k') = zWt (mu 67 0) (mu 66 0).toNat (mu 79) (mu 73) (mu 78 0) pl tl (mu 78 0 - i').toNat (ze (k' / 8)) (ze (k' % 8))
theorem m_layRows {pl tl : Int} (hd : 2 ≤ d) (hK : 93 ≤ K) (hN : 2 ≤ mu 66 0 ∧ mu 66 0 ≤ 6) (hk : mu 67 0 = 0 ∨ mu 67 0 = 3) (hm : 0 ≤ mu 78 0 ∧ mu 78 0 ≤ 10) (hg : ∀ i, 0 ≤ i → i < mu 78 0 → 0 ≤ mu 79 i ∧ mu 79 i ≤ 6) (hs : zshb (mu 73)) (hpl : zin pl) (htl : zin tl)
    (h : ∀ nu, zsm [87, 88, 89] mu nu → zT mu nu pl tl (-1) 0 → Q zV nu) : zC K d mX9_layRows [zR 64, zI pl, zI tl] mu Q := by
  have l49 : ∀ (i k : Int), 0 ≤ i → i < mu 78 0 → 0 ≤ k → k < 64 → ∀ (nu : Mem), zsm [87, 88, 89] mu nu → zT mu nu pl tl i k → (∀ xi, zsm [87, 88, 89] mu xi → zT mu xi pl tl i (k + 1) → zG K d mX9_layRows 14 [zR 64, zI pl, zI tl, zI i, zI (k + 1), zU, zU, zU, zU, zU, zU, zU, zU, zU] [] xi Q) →
      ∀ (n : Nat) (x A B C : Int), 0 ≤ x → x + n = mu 66 0 →
        A = zsum (fun x => if (i ≠ pl ∨ x = tl) ∧ zgb (mu 67 0) (ze (k / 8)) (ze (k % 8)) x = mu 79 i then zs1 (mu 73) x * zB (mu 67 0) (mu 66 0).toNat (mu 79) (zs1 (mu 73)) (mu 78 0) pl tl (mu 78 0 - i - 1).toNat (ze (k % 8)) x else 0) x.toNat →
        B = zsum (fun x => if (i ≠ pl ∨ x = tl) ∧ zgb (mu 67 0) (ze (k / 8)) (ze (k % 8)) x = mu 79 i then mu 73 x * zB (mu 67 0) (mu 66 0).toNat (mu 79) (mu 73) (mu 78 0) pl tl (mu 78 0 - i - 1).toNat (ze (k % 8)) x else 0) x.toNat →
        C = zmx0 (fun x => if (i ≠ pl ∨ x = tl) ∧ zgb (mu 67 0) (ze (k / 8)) (ze (k % 8)) x = mu 79 i then mu 73 x * zWt (mu 67 0) (mu 66 0).toNat (mu 79) (mu 73) (mu 78 0) pl tl (mu 78 0 - i - 1).toNat (ze (k % 8)) x else 0) x.toNat →
        zG K d mX9_layRows 49 [zR 64, zI pl, zI tl, zI i, zI k, zJ A, zU, zJ B, zU, zJ C, zU, zI x, zU, zU] [] nu Q := by
    intro i k i0 i1 k0 k1 nu hz hT kk n
    have e : ∀ c : Int, c ≠ 87 → c ≠ 88 → c ≠ 89 → nu c = mu c := fun c q1 q2 q3 => hz c (by simp only [List.mem_cons, List.not_mem_nil, or_false]; omega)
    have e66 := e 66 (by decide) (by decide) (by decide)
    have e67 := e 67 (by decide) (by decide) (by decide)
    have e73 := e 73 (by decide) (by decide) (by decide)
    have e78 := e 78 (by decide) (by decide) (by decide)
    have e79 := e 79 (by decide) (by decide) (by decide)
    have er : (mu 78 0 - i).toNat = (mu 78 0 - i - 1).toNat + 1 := by omega
    have ei : mu 78 0 - (((mu 78 0 - i - 1).toNat : Nat) + 1 : Int) = i := by omega
    induction n with
    | zero =>
      intro x A B C x0 x1 hA hB hC
      have ex : x = mu 66 0 := by omega
      subst ex
      have fin : zT mu (zup (zup (zup nu 87 (64 * i + k) A) 88 (64 * i + k) B) 89 (64 * i + k) C) pl tl i (k + 1) := fun i' k' a0 a1 b0 b1 hc => by
        by_cases hik : i' = i ∧ k' = k
        · obtain ⟨rfl, rfl⟩ := hik
          rw [zup_cell _ (by decide), zup_cell _ (by decide), zup_same, zup_cell _ (by decide), zup_same, zup_same, er, zB, zB, zWt, ei]
          exact ⟨hA, hB, hC⟩
        · have ne : 64 * i' + k' ≠ 64 * i + k := by omega
          rw [zup_cell _ (by decide), zup_cell _ (by decide), zup_slot _ ne, zup_cell _ (by decide), zup_slot _ ne, zup_cell _ (by decide), zup_slot _ ne, zup_cell _ (by decide), zup_cell _ (by decide)]
          exact hT i' k' a0 a1 b0 b1 (by omega)
      have z1 : zsm [87, 88, 89] mu (zup (zup (zup nu 87 (64 * i + k) A) 88 (64 * i + k) B) 89 (64 * i + k) C) := ((hz.up (by simp)).up (by simp)).up (by simp)
      refine sg_X9_layRows_49 hd hK ?_
      rw [e66]
      exact ⟨⟨by omega, by omega⟩, ⟨by omega, by omega⟩, fun _ => ⟨by omega, by omega, kk _ z1 fin⟩, fun q => absurd (Int.le_refl _) q⟩
    | succ n ih =>
      intro x A B C x0 x1 hA hB hC
      have en : (x + 1).toNat = x.toNat + 1 := by omega
      have exx : ((x.toNat : Nat) : Int) = x := by omega
      have px := hs x x0 (by omega)
      have gg := hg i i0 i1
      have em : k.tmod 8 = k % 8 := Int.tmod_eq_emod_of_nonneg k0
      have ed : k.tdiv 8 = k / 8 := Int.tdiv_eq_ediv_of_nonneg k0
      have zex : ze x = x := by unfold ze; rw [if_neg (by omega)]
      have eq8 : (8 * (k % 8) + x) / 8 = k % 8 := by omega
      have eq9 : (8 * (k % 8) + x) % 8 = x := by omega
      obtain ⟨T1, T2, T3⟩ := hT (i + 1) (8 * (k % 8) + x) (by omega) (by omega) (by omega) (by omega) (Or.inl (by omega))
      rw [show 64 * (i + 1) + (8 * (k % 8) + x) = 64 * (i + 1) + 8 * (k % 8) + x by omega, eq8, eq9, zex, show (mu 78 0 - (i + 1)).toNat = (mu 78 0 - i - 1).toNat by omega] at T1 T2 T3
      have bB := zB_bd (kind := mu 67 0) (t := (mu 66 0).toNat) (g := mu 79) (sh := mu 73) (m := mu 78 0) (pl := pl) (tl := tl) (by omega) hs (mu 78 0 - i - 1).toNat (ze (k % 8)) x
      have bW := zWt_bd (kind := mu 67 0) (t := (mu 66 0).toNat) (g := mu 79) (sh := mu 73) (m := mu 78 0) (pl := pl) (tl := tl) (by omega) hs (mu 78 0 - i - 1).toNat (ze (k % 8)) x
      have b9 := z9p (r := (mu 78 0 - i - 1).toNat) (by omega)
      have bC : 0 ≤ C ∧ C ≤ 9 * 3486784401 := by
        rw [hC]
        exact zmx0_bd (by omega) _ (fun y y0 y1 => by
          split
          · have u := zWt_bd (kind := mu 67 0) (t := (mu 66 0).toNat) (g := mu 79) (sh := mu 73) (m := mu 78 0) (pl := pl) (tl := tl) (by omega) hs (mu 78 0 - i - 1).toNat (ze (k % 8)) y
            exact zmul_bd (hs y y0 (by omega)) ⟨u.1, by omega⟩
          · exact ⟨by omega, by omega⟩)
      have bP := zmul_bd px (show 0 ≤ zWt (mu 67 0) (mu 66 0).toNat (mu 79) (mu 73) (mu 78 0) pl tl (mu 78 0 - i - 1).toNat (ze (k % 8)) x ∧ zWt (mu 67 0) (mu 66 0).toNat (mu 79) (mu 73) (mu 78 0) pl tl (mu 78 0 - i - 1).toNat (ze (k % 8)) x ≤ 3486784401 from ⟨bW.1, by omega⟩)
      -- from 123 on, with 'may' y
      have l123 : ∀ y : Int, (y = 0 ∨ y = 1) → (y = 1 ↔ (0 < mu 73 x ∧ (i ≠ pl ∨ x = tl) ∧ zgb (mu 67 0) (ze (k / 8)) (ze (k % 8)) x = mu 79 i)) → zG K d mX9_layRows 123 [zR 64, zI pl, zI tl, zI i, zI k, zJ A, zU, zJ B, zU, zJ C, zU, zI x, zI y, zU] [] nu Q := fun y hy hyy => by
        refine sg_X9_layRows_123 hd hK ⟨⟨by omega, by omega⟩, ?_⟩
        rw [em]
        refine m_stand hK ⟨_, rfl, ⟨by omega, by omega⟩, fun c => ?_, fun c => ⟨by omega, by omega, ?_⟩⟩
        · refine sg_X9_layRows_159 hd hK ⟨⟨by omega, by omega⟩, fun _ => ?_, fun c2 => absurd c c2⟩
          refine sg_X9_layRows_189 hd hK ⟨⟨by omega, by omega⟩, fun _ => ?_, fun c2 => absurd c c2⟩
          have n1 : ¬ (0 < mu 73 x ∧ (i ≠ pl ∨ x = tl) ∧ zgb (mu 67 0) (ze (k / 8)) (ze (k % 8)) x = mu 79 i) := fun q => by have := hyy.mpr q; omega
          have z0 : ¬ ((i ≠ pl ∨ x = tl) ∧ zgb (mu 67 0) (ze (k / 8)) (ze (k % 8)) x = mu 79 i) ∨ mu 73 x = 0 := by
            by_cases hp : 0 < mu 73 x
            · exact Or.inl (fun q => n1 ⟨hp, q⟩)
            · exact Or.inr (by omega)
          refine ih (x + 1) (A + 0) (B + 0) C (by omega) (by omega) ?_ ?_ ?_
          · rw [en, zsum, exx, ← hA]
            rcases z0 with q | q
            · rw [if_neg q]
            · have s0 : zs1 (mu 73) x = 0 := by
                unfold zs1
                rw [if_pos (by omega)]
              rw [s0]
              simp
          · rw [en, zsum, exx, ← hB]
            rcases z0 with q | q
            · rw [if_neg q]
            · rw [q]
              simp
          · rw [en, zmx0, exx, ← hC]
            rcases z0 with q | q
            · rw [if_neg q]
              omega
            · rw [q]
              simp only [Int.zero_mul, ite_self]
              omega
        · have y1 := hyy.mp (by omega)
          have cond : (i ≠ pl ∨ x = tl) ∧ zgb (mu 67 0) (ze (k / 8)) (ze (k % 8)) x = mu 79 i := y1.2
          rw [T1]
          refine sg_X9_layRows_159 hd hK ⟨⟨by omega, by omega⟩, fun c2 => absurd c2 c, fun _ => ⟨x0, by omega, by rw [e73]; exact ⟨by omega, by omega⟩, by omega, by omega, ?_⟩⟩
          rw [e73, T2]
          have s1 : zs1 (mu 73) x = 1 := by
            unfold zs1
            rw [if_neg (by omega)]
          have hA' : A + zB (mu 67 0) (mu 66 0).toNat (mu 79) (zs1 (mu 73)) (mu 78 0) pl tl (mu 78 0 - i - 1).toNat (ze (k % 8)) x = zsum (fun x => if (i ≠ pl ∨ x = tl) ∧ zgb (mu 67 0) (ze (k / 8)) (ze (k % 8)) x = mu 79 i then zs1 (mu 73) x * zB (mu 67 0) (mu 66 0).toNat (mu 79) (zs1 (mu 73)) (mu 78 0) pl tl (mu 78 0 - i - 1).toNat (ze (k % 8)) x else 0) (x + 1).toNat := by
            rw [en, zsum, exx, ← hA, if_pos cond, s1, Int.one_mul]
          have hB' : B + mu 73 x * zB (mu 67 0) (mu 66 0).toNat (mu 79) (mu 73) (mu 78 0) pl tl (mu 78 0 - i - 1).toNat (ze (k % 8)) x = zsum (fun x => if (i ≠ pl ∨ x = tl) ∧ zgb (mu 67 0) (ze (k / 8)) (ze (k % 8)) x = mu 79 i then mu 73 x * zB (mu 67 0) (mu 66 0).toNat (mu 79) (mu 73) (mu 78 0) pl tl (mu 78 0 - i - 1).toNat (ze (k % 8)) x else 0) (x + 1).toNat := by
            rw [en, zsum, exx, ← hB, if_pos cond]
          refine sg_X9_layRows_189 hd hK ?_
          rw [e73, T3]
          refine ⟨⟨by omega, by omega⟩, fun c2 => absurd c2 c, fun _ => ⟨x0, by omega, ⟨by omega, by omega⟩, by omega, by omega, ⟨by omega, by omega⟩, ⟨by omega, by omega⟩, fun c2 => ?_, fun c2 => ?_⟩⟩
          · refine ih (x + 1) _ _ C (by omega) (by omega) hA' hB' ?_
            rw [en, zmx0, exx, ← hC, if_pos cond]
            omega
          · refine ih (x + 1) _ _ _ (by omega) (by omega) hA' hB' ?_
            rw [en, zmx0, exx, ← hC, if_pos cond]
            omega
      refine sg_X9_layRows_49 hd hK ?_
      rw [e66, e73, e78]
      refine ⟨⟨by omega, by omega⟩, ⟨by omega, by omega⟩, fun q => absurd q (by omega), fun _ => ⟨⟨by omega, by omega⟩, ⟨by omega, by omega⟩, fun q => absurd q (by omega), fun _ => ⟨x0, by omega, ⟨by omega, by omega⟩, fun c1 => l123 0 (by omega) (by omega), fun c1 => ⟨⟨by omega, by omega⟩, ?_⟩⟩⟩⟩
      rw [ed, em]
      refine m_shortly (by omega) hK (by rw [e67]; exact hk) (by omega) ⟨by omega, by omega, fun _ => Or.inr trivial⟩ (by omega) ⟨_, rfl, ?_⟩
      rw [e67, e79]
      have zb : 0 ≤ zgb (mu 67 0) (ze (k / 8)) (ze (k % 8)) x ∧ zgb (mu 67 0) (ze (k / 8)) (ze (k % 8)) x ≤ 6 := by
        unfold zgb zmaj ze
        repeat' split
        all_goals omega
      refine ⟨i0, by omega, ⟨by omega, by omega⟩, ⟨by omega, by omega⟩, fun c2 => l123 0 (by omega) ⟨fun q => by omega, fun q => absurd q.2.2 c2⟩, fun c2 => ⟨hpl, fun c3 => l123 1 (by omega) ⟨fun _ => ⟨by omega, Or.inl c3, c2⟩, fun _ => rfl⟩, fun c3 => ⟨htl, fun c4 => l123 0 (by omega) ⟨fun q => by omega, fun q => ?_⟩, fun c4 => l123 1 (by omega) ⟨fun _ => ⟨by omega, Or.inr c4, c2⟩, fun _ => rfl⟩⟩⟩⟩
      rcases q.2.1 with q | q
      · exact absurd c3 q
      · exact absurd q c4
  have l14 : ∀ (i : Int), 0 ≤ i → i ≤ mu 78 0 → (∀ xi, zsm [87, 88, 89] mu xi → zT mu xi pl tl (i - 1) 0 → zG K d mX9_layRows 7 [zR 64, zI pl, zI tl, zI (i + (-1)), zU, zU, zU, zU, zU, zU, zU, zU, zU, zU] [] xi Q) → ∀ (n : Nat) (k : Int) (nu : Mem), 0 ≤ k → k + n = 64 → zsm [87, 88, 89] mu nu → zT mu nu pl tl i k → zG K d mX9_layRows 14 [zR 64, zI pl, zI tl, zI i, zI k, zU, zU, zU, zU, zU, zU, zU, zU, zU] [] nu Q := by
    intro i i0 i1 kk n
    induction n with
    | zero =>
      intro k nu k0 k1 hz hT
      have e : k = 64 := by omega
      subst e
      exact sg_X9_layRows_14 hd hK ⟨⟨by omega, by omega⟩, fun _ => kk nu hz (fun i' k' a0 a1 b0 b1 hc => hT i' k' a0 a1 b0 b1 (by omega)), fun c => absurd c (by omega)⟩
    | succ n ih =>
      intro k nu k0 k1 hz hT
      have e66 := hz 66 (by decide)
      have e78 := hz 78 (by decide)
      have nxt : ∀ xi, zsm [87, 88, 89] mu xi → zT mu xi pl tl i (k + 1) → zG K d mX9_layRows 14 [zR 64, zI pl, zI tl, zI i, zI (k + 1), zU, zU, zU, zU, zU, zU, zU, zU, zU] [] xi Q := fun xi hx hX => ih (k + 1) xi (by omega) (by omega) hx hX
      refine sg_X9_layRows_14 hd hK ?_
      rw [e78]
      refine ⟨⟨by omega, by omega⟩, fun c => absurd c (by omega), fun _ => ⟨⟨by omega, by omega⟩, ⟨by omega, by omega⟩, fun c => ?_, fun c => ?_⟩⟩
      · exact l49 i k i0 (by omega) k0 (by omega) nu hz hT nxt (mu 66 0).toNat 0 0 0 0 (by omega) (by omega) rfl rfl rfl
      · refine sg_X9_layRows_49 hd hK ?_
        rw [e66, e78]
        refine ⟨⟨by omega, by omega⟩, ⟨by omega, by omega⟩, fun q => absurd q (by omega), fun _ => ⟨⟨by omega, by omega⟩, ⟨by omega, by omega⟩, fun _ => ⟨by omega, by omega, nxt _ (((hz.up (by simp)).up (by simp)).up (by simp)) (fun i' k' a0 a1 b0 b1 hc => ?_)⟩, fun q => absurd (by omega) q⟩⟩
        by_cases hik : i' = i ∧ k' = k
        · obtain ⟨rfl, rfl⟩ := hik
          rw [zup_cell _ (by decide), zup_cell _ (by decide), zup_same, zup_cell _ (by decide), zup_same, zup_same, show (mu 78 0 - i').toNat = 0 by omega]
          exact ⟨rfl, rfl, rfl⟩
        · have ne : 64 * i' + k' ≠ 64 * i + k := by omega
          rw [zup_cell _ (by decide), zup_cell _ (by decide), zup_slot _ ne, zup_cell _ (by decide), zup_slot _ ne, zup_cell _ (by decide), zup_slot _ ne, zup_cell _ (by decide), zup_cell _ (by decide)]
          exact hT i' k' a0 a1 b0 b1 (by omega)
  have l7 : ∀ (n : Nat) (i : Int) (nu : Mem), i + 1 = n → i ≤ mu 78 0 → zsm [87, 88, 89] mu nu → zT mu nu pl tl i 0 → zG K d mX9_layRows 7 [zR 64, zI pl, zI tl, zI i, zU, zU, zU, zU, zU, zU, zU, zU, zU, zU] [] nu Q := by
    intro n
    induction n with
    | zero =>
      intro i nu i0 i1 hz hT
      have e : i = -1 := by omega
      subst e
      exact sg_X9_layRows_7 hd hK ⟨⟨by omega, by omega⟩, fun _ => h nu hz hT, fun c => absurd (by omega) c⟩
    | succ n ih =>
      intro i nu i0 i1 hz hT
      refine sg_X9_layRows_7 hd hK ⟨⟨by omega, by omega⟩, fun c => absurd c (by omega), fun _ => ?_⟩
      exact l14 i (by omega) i1 (fun xi hx hX => ih (i + (-1)) xi (by omega) (by omega) hx (by rw [show i + (-1) = i - 1 by omega]; exact hX)) 64 0 nu (by omega) (by omega) hz hT
  refine ce_X9_layRows (sg_X9_layRows_0 hd hK ?_)
  exact l7 (mu 78 0 + 1).toNat (mu 78 0) mu (by omega) (by omega) zsm.rf (fun i' k' a0 a1 b0 b1 hc => absurd hc (by omega))
end S55
