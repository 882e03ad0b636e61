/-! keep, back -/
section S45
variable {K d : Nat} {mu : Mem} {Q : AV → Mem → Prop}
/-- a standing is another's copy -/
def zcf (mu nu : Mem) (S F : Int) : Prop := zsm [S, S + 1, S + 2, S + 3, S + 4] mu nu ∧ (∀ p, 0 ≤ p → p < 6 → nu (S + 1) p = mu (F + 1) p ∧ nu (S + 2) p = mu (F + 2) p ∧ nu (S + 3) p = mu (F + 3) p) ∧ (∀ i, 0 ≤ i → i < 10 → nu (S + 4) i = mu (F + 4) i) ∧ nu S 4 = mu F 4
theorem zcp_row (mu : Mem) {ks kd sp dp n a : Int} (h : a ≠ kd) : zcp mu ks kd sp dp n a = mu a := by
  funext b
  unfold zcp
  rw [if_neg (fun q => h q.1)]
theorem zcp_in (mu : Mem) {ks kd n b : Int} (h0 : 0 ≤ b) (h1 : b < n) : zcp mu ks kd 0 0 n kd b = mu ks b := by
  unfold zcp
  rw [if_pos ⟨rfl, h0, by omega⟩]
  congr 1
  omega
theorem s_copyFrom {S F : Int} (hd : 1 ≤ d) (hK : 64 ≤ K) (hS : isS K S) (hF : isS K F) (hne : S ≠ F) (h : ∀ nu, zcf mu nu S F → Q zV nu) : zC K d mX6_copyFrom [zR S, zR F] mu Q := by
  have hS2 := hS.2
  have hF2 := hF.2
  refine ce_X6_copyFrom (sg_X6_copyFrom_0 hd hK hS hF (h _ ⟨?_, fun p p0 p1 => ⟨?_, ?_, ?_⟩, fun i i0 i1 => ?_, ?_⟩))
  · refine zsm.up (zsm.cp (zsm.cp (zsm.cp (zsm.cp zsm.rf ?_) ?_) ?_) ?_) ?_ <;> simp
  · rw [zup_row _ (by omega), zcp_row _ (by omega), zcp_row _ (by omega), zcp_row _ (by omega), zcp_in _ p0 p1]
  · rw [zup_row _ (by omega), zcp_row _ (by omega), zcp_row _ (by omega), zcp_in _ p0 p1, zcp_row _ (by omega)]
  · rw [zup_row _ (by omega), zcp_row _ (by omega), zcp_in _ p0 p1, zcp_row _ (by omega), zcp_row _ (by omega)]
  · rw [zup_row _ (by omega), zcp_in _ i0 i1, zcp_row _ (by omega), zcp_row _ (by omega), zcp_row _ (by omega)]
  · rw [zup_same, zcp_row _ (by omega), zcp_row _ (by omega), zcp_row _ (by omega), zcp_row _ (by omega)]
/-- the reference's book b is its book a -/
def zcb (mu nu : Mem) (a b : Int) : Prop := zsm [77, 78, 79] mu nu ∧ (∀ i, 0 ≤ i → i < 18 → nu 77 (18 * b + i) = mu 77 (18 * a + i)) ∧ (∀ i, i < 18 * b ∨ 18 * b + 18 ≤ i → nu 77 i = mu 77 i) ∧ nu 78 b = mu 78 a ∧ (∀ i, i ≠ b → nu 78 i = mu 78 i) ∧ (∀ i, 0 ≤ i → i < 10 → nu 79 (10 * b + i) = mu 79 (10 * a + i)) ∧ ∀ i, i < 10 * b ∨ 10 * b + 10 ≤ i → nu 79 i = mu 79 i
theorem l_copy_50 {a b : Int} (hK : 93 ≤ K) (ha : 0 ≤ a ∧ a < 3) (hb : 0 ≤ b ∧ b < 3) (hab : a ≠ b) (h : ∀ nu, zcb mu nu a b → Q zV nu) : ∀ (m : Nat) (j : Int) (nu : Mem), 0 ≤ j → j + m = 10 → zsm [77, 78, 79] mu nu → (∀ i, 0 ≤ i → i < 18 → nu 77 (18 * b + i) = mu 77 (18 * a + i)) → (∀ i, i < 18 * b ∨ 18 * b + 18 ≤ i → nu 77 i = mu 77 i) → nu 78 b = mu 78 a → (∀ i, i ≠ b → nu 78 i = mu 78 i) → (∀ i, 0 ≤ i → i < j → nu 79 (10 * b + i) = mu 79 (10 * a + i)) → (∀ i, i < 10 * b ∨ 10 * b + j ≤ i → nu 79 i = mu 79 i) → zG K d mX9_copy 50 [zR 64, zI a, zI b, zI j] [] nu Q := by
  intro m
  induction m with
  | zero =>
    intro j nu j0 j1 h1 h2 h3 h4 h5 h6 h7
    have e : j = 10 := by omega
    subst e
    exact sg_X9_copy_50 (by omega) hK ⟨⟨by omega, by omega⟩, fun _ => h nu ⟨h1, h2, h3, h4, h5, h6, h7⟩, fun c => absurd c (by omega)⟩
  | succ m ih =>
    intro j nu j0 j1 h1 h2 h3 h4 h5 h6 h7
    refine sg_X9_copy_50 (by omega) hK ⟨⟨by omega, by omega⟩, fun c => absurd c (by omega), fun _ => ⟨by omega, by omega, by omega, by omega, ih (j + 1) _ (by omega) (by omega) (h1.up (by simp)) ?_ ?_ ?_ ?_ ?_ ?_⟩⟩
    · intro i i0 i1
      rw [zup_cell _ (by decide)]
      exact h2 i i0 i1
    · intro i hi
      rw [zup_cell _ (by decide)]
      exact h3 i hi
    · rw [zup_cell _ (by decide)]
      exact h4
    · intro i hi
      rw [zup_cell _ (by decide)]
      exact h5 i hi
    · intro i i0 i1
      by_cases hi : i = j
      · rw [hi, zup_same, h7 _ (by omega)]
      · rw [zup_slot _ (by omega)]
        exact h6 i i0 (by omega)
    · intro i hi
      rw [zup_slot _ (by omega)]
      exact h7 i (by omega)
theorem l_copy_2 {a b : Int} (hK : 93 ≤ K) (ha : 0 ≤ a ∧ a < 3) (hb : 0 ≤ b ∧ b < 3) (hab : a ≠ b) (h : ∀ nu, zcb mu nu a b → Q zV nu) : ∀ (m : Nat) (j : Int) (nu : Mem), 0 ≤ j → j + m = 18 → zsm [77] mu nu → (∀ i, 0 ≤ i → i < j → nu 77 (18 * b + i) = mu 77 (18 * a + i)) → (∀ i, i < 18 * b ∨ 18 * b + j ≤ i → nu 77 i = mu 77 i) → zG K d mX9_copy 2 [zR 64, zI a, zI b, zI j] [] nu Q := by
  intro m
  induction m with
  | zero =>
    intro j nu j0 j1 h1 h2 h3
    have e : j = 18 := by omega
    subst e
    have e78 : nu 78 = mu 78 := h1 78 (by decide)
    have e79 : nu 79 = mu 79 := h1 79 (by decide)
    refine sg_X9_copy_2 (by omega) hK ⟨⟨by omega, by omega⟩, fun _ => ⟨by omega, by omega, by omega, by omega, l_copy_50 hK ha hb hab h 10 0 _ (by omega) (by omega) (zsm.up (h1.wk (by simp)) (by simp)) ?_ ?_ ?_ ?_ ?_ ?_⟩, fun c => absurd c (by omega)⟩
    · intro i i0 i1
      rw [zup_cell _ (by decide)]
      exact h2 i i0 i1
    · intro i hi
      rw [zup_cell _ (by decide)]
      exact h3 i hi
    · rw [zup_same, e78]
    · intro i hi
      rw [zup_slot _ hi, e78]
    · intro i i0 i1
      exact absurd i1 (by omega)
    · intro i hi
      rw [zup_cell _ (by decide), e79]
  | succ m ih =>
    intro j nu j0 j1 h1 h2 h3
    refine sg_X9_copy_2 (by omega) hK ⟨⟨by omega, by omega⟩, fun c => absurd c (by omega), fun _ => ⟨by omega, by omega, by omega, by omega, ih (j + 1) _ (by omega) (by omega) (h1.up (by simp)) ?_ ?_⟩⟩
    · intro i i0 i1
      by_cases hi : i = j
      · rw [hi, zup_same, h3 _ (by omega)]
      · rw [zup_slot _ (by omega)]
        exact h2 i i0 (by omega)
    · intro i hi
      rw [zup_slot _ (by omega)]
      exact h3 i (by omega)
theorem m_copy {a b : Int} (hK : 93 ≤ K) (ha : 0 ≤ a ∧ a < 3) (hb : 0 ≤ b ∧ b < 3) (hab : a ≠ b) (h : ∀ nu, zcb mu nu a b → Q zV nu) : zC K d mX9_copy [zR 64, zI a, zI b] mu Q :=
  ce_X9_copy (sg_X9_copy_0 (by omega) hK (l_copy_2 hK ha hb hab h 18 0 mu (by omega) (by omega) zsm.rf (fun i i0 i1 => absurd i1 (by omega)) (fun i _ => rfl)))
/-- a copied standing is the copied book -/
theorem jSt.cp {mu nu xi : Mem} {N m S F a b : Int} (h : jSt mu N m F a) (hm : m ≤ 6) (hS : zcf mu nu S F) (h77 : ∀ i, 0 ≤ i → i < 18 → xi 77 (18 * b + i) = mu 77 (18 * a + i)) (h78 : xi 78 b = mu 78 a) (h79 : ∀ i, 0 ≤ i → i < 10 → xi 79 (10 * b + i) = mu 79 (10 * a + i)) (hx : xi S = nu S ∧ xi (S + 1) = nu (S + 1) ∧ xi (S + 2) = nu (S + 2) ∧ xi (S + 3) = nu (S + 3) ∧ xi (S + 4) = nu (S + 4)) : jSt xi N m S b := by
  obtain ⟨g1, g2, g3⟩ := h
  obtain ⟨-, s1, s2, s3⟩ := hS
  obtain ⟨x0, x1, x2, x3, x4⟩ := hx
  refine ⟨fun p p0 p1 => ?_, ?_, fun i i0 i1 => ?_⟩
  · obtain ⟨u1, u2, u3⟩ := s1 p p0 (by omega)
    have v1 := h77 (3 * p) (by omega) (by omega)
    have v2 := h77 (3 * p + 1) (by omega) (by omega)
    have v3 := h77 (3 * p + 2) (by omega) (by omega)
    rw [show 18 * b + (3 * p + 1) = 18 * b + 3 * p + 1 by omega, show 18 * a + (3 * p + 1) = 18 * a + 3 * p + 1 by omega] at v2
    rw [show 18 * b + (3 * p + 2) = 18 * b + 3 * p + 2 by omega, show 18 * a + (3 * p + 2) = 18 * a + 3 * p + 2 by omega] at v3
    rw [x1, x2, x3, u1, u2, u3, v1, v2, v3]
    exact g1 p p0 p1
  · rw [x0, s3, h78]
    exact g2
  · rw [x0, s3] at i1
    rw [x4, s2 i i0 (by omega), h79 i i0 (by omega)]
    exact g3 i i0 i1
end S45
theorem op_keep : zOp 2 1 mX8_keep mX9_keep [] := by
  intro mu P hJ
  have hK : 64 ≤ 93 := by decide
  have hK' : 93 ≤ 93 := by decide
  have hJ0 := hJ
  obtain ⟨h1, h2, h3, h4, h5, h6, h7⟩ := hJ
  have hP : P = 4 ∨ P = 13 := by rcases h1.2 with h | h <;> omega
  have hm := h2.2.2.2.2.1.2.2
  obtain ⟨⟨y1, y2, y3⟩, y4, y5⟩ := h5
  refine ce_X8_keep (sg_X8_keep_0 (by omega) hK ⟨⟨by omega, by omega⟩, fun c => ⟨by omega, by omega, ⟨by omega, by omega⟩, ?_⟩, fun c => ?_⟩)
  · refine s_copyFrom (by omega) hK ⟨by omega, by omega⟩ ⟨by omega, by omega⟩ (by omega) (fun nu hc => ⟨rfl, ?_⟩)
    have e : ∀ k : Int, (k < 28 ∨ 38 ≤ k) → nu k = mu k := fun k hk => hc.1 k (by simp only [List.mem_cons, List.not_mem_nil, or_false]; omega)
    have e07 : nu 0 7 = mu 0 7 := by rw [e 0 (by omega)]
    rw [e07, zup_same]
    refine ⟨_, ⟨by omega, by omega⟩, rfl, ?_⟩
    have f64 : zup nu 0 7 (mu 0 7 + 1) 64 16 = mu 64 16 := by rw [zup_cell _ (by decide), e 64 (by omega)]
    refine ce_X9_keep (sg_X9_keep_0 (by omega) hK' ?_)
    rw [f64, zup_same]
    refine ⟨⟨by omega, by omega⟩, fun c2 => m_copy hK' (by omega) (by omega) (by omega) (fun xi hx => ⟨rfl, ?_, P, ?_⟩), fun c2 => absurd c2 (by omega)⟩
    · rw [hx.1 64 (by decide), zup_same, y1]
    · have ex : ∀ k : Int, k ≠ 77 → k ≠ 78 → k ≠ 79 → k ≠ 64 → k ≠ 0 → xi k = nu k := fun k q1 q2 q3 q4 q5 => by rw [hx.1 k (by simp only [List.mem_cons, List.not_mem_nil, or_false]; omega), zup_row _ q4, zup_row _ q5]
      have ex0 : ∀ j : Int, j ≠ 7 → xi 0 j = mu 0 j := fun j q => by rw [hx.1 0 (by decide), zup_cell _ (by decide), zup_slot _ q, e 0 (by omega)]
      have ex07 : xi 0 7 = mu 0 7 + 1 := by rw [hx.1 0 (by decide), zup_cell _ (by decide), zup_same]
      have ex64 : xi 64 16 = mu 64 16 + 1 := by rw [hx.1 64 (by decide), zup_same]
      have ex640 : xi 64 0 = mu 64 0 := by rw [hx.1 64 (by decide), zup_slot _ (by decide), zup_cell _ (by decide), e 64 (by omega)]
      have w77 : ∀ i : Int, zup (zup nu 0 7 (mu 0 7 + 1)) 64 16 (mu 64 16 + 1) 77 i = mu 77 i := fun i => by rw [zup_cell _ (by decide), zup_cell _ (by decide), e 77 (by omega)]
      have w78 : ∀ i : Int, zup (zup nu 0 7 (mu 0 7 + 1)) 64 16 (mu 64 16 + 1) 78 i = mu 78 i := fun i => by rw [zup_cell _ (by decide), zup_cell _ (by decide), e 78 (by omega)]
      have w79 : ∀ i : Int, zup (zup nu 0 7 (mu 0 7 + 1)) 64 16 (mu 64 16 + 1) 79 i = mu 79 i := fun i => by rw [zup_cell _ (by decide), zup_cell _ (by decide), e 79 (by omega)]
      obtain ⟨-, hx1, hx2, hx3, hx4, hx5, hx6⟩ := hx
      simp only [w77, w78, w79] at hx1 hx2 hx3 hx4 hx5 hx6
      have em : ∀ k : Int, (k < 28 ∨ 38 ≤ k) → k ≠ 77 → k ≠ 78 → k ≠ 79 → k ≠ 64 → k ≠ 0 → xi k = mu k := fun k q0 q1 q2 q3 q4 q5 => by rw [ex k q1 q2 q3 q4 q5, e k q0]
      obtain ⟨f1, f2, f3⟩ := jst (nu := xi) hP ⟨h2, h6, h7⟩ (fun k hk => em k (by omega) (by omega) (by omega) (by omega) (by omega) (by omega))
      have pp : xi P = mu P := em P (by omega) (by omega) (by omega) (by omega) (by omega) (by omega)
      refine ⟨h1.c (ex0 3 (by decide)) (ex0 4 (by decide)), f1, ?_, h4.c (ex0 1 (by decide)) ex640 (em 1 (by omega) (by decide) (by decide) (by decide) (by decide) (by decide)) (em 65 (by omega) (by decide) (by decide) (by decide) (by decide) (by decide)), ?_, f2, f3⟩
      · rw [pp]
        exact h3.c hm (by rw [em 22 (by omega) (by decide) (by decide) (by decide) (by decide) (by decide)]) (em _ (by omega) (by decide) (by decide) (by decide) (by decide) (by decide)) (em _ (by omega) (by decide) (by decide) (by decide) (by decide) (by decide)) (em _ (by omega) (by decide) (by decide) (by decide) (by decide) (by decide)) (em _ (by omega) (by decide) (by decide) (by decide) (by decide) (by decide)) (fun i i0 i1 => hx2 i (by omega)) (hx4 _ (by omega)) (fun i i0 i1 => hx6 i (by omega))
      · rw [pp]
        have new : jSt xi (mu P 0) (mu P 4) (27 + 1 + 5 * mu 0 7) (mu 64 16 + 1) := jSt.cp h3 hm hc (fun i i0 i1 => by rw [hx1 i i0 i1]) hx3 (fun i i0 i1 => by rw [hx5 i i0 i1]) ⟨ex _ (by omega) (by omega) (by omega) (by omega) (by omega), ex _ (by omega) (by omega) (by omega) (by omega) (by omega), ex _ (by omega) (by omega) (by omega) (by omega) (by omega), ex _ (by omega) (by omega) (by omega) (by omega) (by omega), ex _ (by omega) (by omega) (by omega) (by omega) (by omega)⟩
        refine ⟨⟨by omega, by omega, by omega⟩, fun q => ?_, fun q => ?_⟩
        · by_cases hz : mu 0 7 = 0
          · rw [hz, ← y1, hz] at new
            exact new
          · have h28 : ∀ k : Int, 28 ≤ k → k < 33 → xi k = mu k := fun k k0 k1 => by
              rw [ex k (by omega) (by omega) (by omega) (by omega) (by omega)]
              exact hc.1 k (by simp only [List.mem_cons, List.not_mem_nil, or_false]; omega)
            exact (y4 (by omega)).c hm (by rw [h28 28 (by omega) (by omega)]) (h28 _ (by omega) (by omega)) (h28 _ (by omega) (by omega)) (h28 _ (by omega) (by omega)) (h28 _ (by omega) (by omega)) (fun i i0 i1 => hx2 i (by omega)) (hx4 _ (by omega)) (fun i i0 i1 => hx6 i (by omega))
        · have hz : mu 0 7 = 1 := by omega
          rw [hz, ← y1, hz] at new
          exact new
  · refine ⟨_, ⟨by omega, by omega⟩, rfl, ?_⟩
    exact ce_X9_keep (sg_X9_keep_0 (by omega) hK' ⟨⟨by omega, by omega⟩, fun c2 => absurd (by omega) c2, fun c2 => ⟨rfl, _, hJ0⟩⟩)
theorem op_back : zOp 2 1 mX8_back mX9_back [] := by
  intro mu P hJ
  have hK : 64 ≤ 93 := by decide
  have hK' : 93 ≤ 93 := by decide
  have hJ0 := hJ
  obtain ⟨h1, h2, h3, h4, h5, h6, h7⟩ := hJ
  have hP : P = 4 ∨ P = 13 := by rcases h1.2 with h | h <;> omega
  have hm := h2.2.2.2.2.1.2.2
  obtain ⟨⟨y1, y2, y3⟩, y4, y5⟩ := h5
  refine ce_X8_back (sg_X8_back_0 (by omega) hK ⟨⟨by omega, by omega⟩, fun c => ?_, fun c => ?_⟩)
  · rw [zup_same]
    refine ⟨by omega, by omega, s_copyFrom (by omega) hK ⟨by omega, by omega⟩ ⟨by omega, by omega⟩ (by omega) (fun nu hc => ⟨rfl, ?_⟩)⟩
    have e0 : nu 0 7 = mu 0 7 - 1 := by rw [hc.1 0 (by decide), zup_same]
    rw [e0]
    refine ⟨_, ⟨by omega, by omega⟩, rfl, ?_⟩
    have e : ∀ k : Int, (k < 22 ∨ 27 ≤ k) → k ≠ 0 → nu k = mu k := fun k hk h0 => by rw [hc.1 k (by simp only [List.mem_cons, List.not_mem_nil, or_false]; omega), zup_row _ h0]
    have f64 : nu 64 16 = mu 64 16 := by rw [e 64 (by omega) (by decide)]
    refine ce_X9_back (sg_X9_back_0 (by omega) hK' ?_)
    rw [f64]
    refine ⟨⟨by omega, by omega⟩, fun c2 => m_copy hK' (by omega) (by omega) (by omega) (fun xi hx => ⟨rfl, ?_⟩), fun c2 => absurd c2 (by omega)⟩
    have x64 : xi 64 16 = mu 64 16 := by rw [hx.1 64 (by decide), f64]
    rw [x64, zup_same]
    refine ⟨by rw [y1], P, ?_⟩
    have w77 : ∀ i : Int, nu 77 i = mu 77 i := fun i => by rw [e 77 (by omega) (by decide)]
    have w78 : ∀ i : Int, nu 78 i = mu 78 i := fun i => by rw [e 78 (by omega) (by decide)]
    have w79 : ∀ i : Int, nu 79 i = mu 79 i := fun i => by rw [e 79 (by omega) (by decide)]
    have hx0 := hx.1
    obtain ⟨-, hx1, hx2, hx3, hx4, hx5, hx6⟩ := hx
    simp only [w77, w78, w79] at hx1 hx2 hx3 hx4 hx5 hx6
    generalize hxi : zup xi 64 16 (mu 64 16 - 1) = om
    have ex : ∀ k : Int, k ≠ 77 → k ≠ 78 → k ≠ 79 → k ≠ 64 → om k = nu k := fun k q1 q2 q3 q4 => by rw [← hxi, zup_row _ q4, hx0 k (by simp only [List.mem_cons, List.not_mem_nil, or_false]; omega)]
    have em : ∀ k : Int, (k < 22 ∨ 27 ≤ k) → k ≠ 77 → k ≠ 78 → k ≠ 79 → k ≠ 64 → k ≠ 0 → om k = mu k := fun k q0 q1 q2 q3 q4 q5 => by rw [ex k q1 q2 q3 q4, e k q0 q5]
    have ex0 : ∀ j : Int, j ≠ 7 → om 0 j = mu 0 j := fun j q => by rw [ex 0 (by decide) (by decide) (by decide) (by decide), hc.1 0 (by decide), zup_slot _ q]
    have o07 : om 0 7 = mu 0 7 - 1 := by rw [ex 0 (by decide) (by decide) (by decide) (by decide), e0]
    have o64 : om 64 16 = mu 64 16 - 1 := by rw [← hxi, zup_same]
    have o640 : om 64 0 = mu 64 0 := by rw [← hxi, zup_slot _ (by decide), hx0 64 (by decide), e 64 (by omega) (by decide)]
    have o77 : om 77 = xi 77 := by rw [← hxi, zup_row _ (by decide)]
    have o78 : om 78 = xi 78 := by rw [← hxi, zup_row _ (by decide)]
    have o79 : om 79 = xi 79 := by rw [← hxi, zup_row _ (by decide)]
    obtain ⟨f1, f2, f3⟩ := jst (nu := om) hP ⟨h2, h6, h7⟩ (fun k hk => em k (by omega) (by omega) (by omega) (by omega) (by omega) (by omega))
    have pp : om P = mu P := em P (by omega) (by omega) (by omega) (by omega) (by omega) (by omega)
    have hc' : zcf mu nu 22 (27 + 1 + 5 * (mu 0 7 - 1)) → True := fun _ => trivial
    have src : jSt mu (mu P 0) (mu P 4) (27 + 1 + 5 * (mu 0 7 - 1)) (mu 64 16) := by
      by_cases hz : mu 0 7 = 1
      · have := y4 (by omega)
        rw [← y1, hz]
        exact this
      · have hz : mu 0 7 = 2 := by omega
        have := y5 (by omega)
        rw [← y1, hz]
        exact this
    have src' : jSt (zup mu 0 7 (mu 0 7 - 1)) (mu P 0) (mu P 4) (27 + 1 + 5 * (mu 0 7 - 1)) (mu 64 16) := src.c hm (by rw [zup_cell _ (by omega)]) (zup_row _ (by omega)) (zup_row _ (by omega)) (zup_row _ (by omega)) (zup_row _ (by omega)) (fun i _ _ => zup_cell _ (by decide)) (zup_cell _ (by decide)) (fun i _ _ => zup_cell _ (by decide))
    refine ⟨h1.c (ex0 3 (by decide)) (ex0 4 (by decide)), f1, ?_, h4.c (ex0 1 (by decide)) o640 (em 1 (by omega) (by decide) (by decide) (by decide) (by decide) (by decide)) (em 65 (by omega) (by decide) (by decide) (by decide) (by decide) (by decide)), ?_, f2, f3⟩
    · rw [pp]
      exact jSt.cp src' hm hc (fun i i0 i1 => by rw [o77, hx1 i i0 i1, zup_cell _ (by decide)]) (by rw [o78, hx3, zup_cell _ (by decide)]) (fun i i0 i1 => by rw [o79, hx5 i i0 i1, zup_cell _ (by decide)]) ⟨ex _ (by decide) (by decide) (by decide) (by decide), ex _ (by decide) (by decide) (by decide) (by decide), ex _ (by decide) (by decide) (by decide) (by decide), ex _ (by decide) (by decide) (by decide) (by decide), ex _ (by decide) (by decide) (by decide) (by decide)⟩
    · rw [pp]
      refine ⟨⟨by omega, by omega, by omega⟩, fun q => ?_, fun q => absurd q (by omega)⟩
      have h28 : ∀ k : Int, 28 ≤ k → k < 33 → om k = mu k := fun k k0 k1 => em k (by omega) (by omega) (by omega) (by omega) (by omega) (by omega)
      exact (y4 (by omega)).c hm (by rw [h28 28 (by omega) (by omega)]) (h28 _ (by omega) (by omega)) (h28 _ (by omega) (by omega)) (h28 _ (by omega) (by omega)) (h28 _ (by omega) (by omega)) (fun i i0 i1 => by rw [o77]; exact hx2 i (by omega)) (by rw [o78]; exact hx4 _ (by omega)) (fun i i0 i1 => by rw [o79]; exact hx6 i (by omega))
  · refine ⟨_, ⟨by omega, by omega⟩, rfl, ?_⟩
    exact ce_X9_back (sg_X9_back_0 (by omega) hK' ⟨⟨by omega, by omega⟩, fun c2 => absurd (by omega) c2, fun c2 => ⟨rfl, _, hJ0⟩⟩)
