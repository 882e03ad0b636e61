/-! round -/
theorem zrd_congr {f f' s s' : Int → Int} {m : Int} (hf : ∀ p, 0 ≤ p → p < m → f p = f' p ∧ 0 ≤ f' p ∧ f' p < m) (hs : ∀ i, 0 ≤ i → i < 3 * m → s i = s' i) : ∀ i, 0 ≤ i → i < 3 * m → zrd f s i = zrd f' s' i := by
  apply z3i
  intro p p0 p1
  obtain ⟨f1, f2, f3⟩ := hf p p0 p1
  rw [zrd_0, zrd_0, zrd_1, zrd_1, zrd_2, zrd_2, f1, hs _ (by omega) (by omega), hs _ (by omega) (by omega), hs _ (by omega) (by omega)]
  exact ⟨rfl, rfl, rfl⟩
theorem zsg_maj {N a b c : Int} (ha : zsg N a) (hc : zsg N c) : zsg N (zmaj a b c) := by
  unfold zmaj
  split
  · exact hc
  · split
    · exact ha
    · exact Or.inr rfl
theorem zrd_sg {f s : Int → Int} {m N : Int} (hf : ∀ p, 0 ≤ p → p < m → 0 ≤ f p ∧ f p < m) (hs : ∀ i, 0 ≤ i → i < 3 * m → zsg N (s i)) : ∀ i, 0 ≤ i → i < 3 * m → zsg N (zrd f s i) := by
  apply z3i
  intro p p0 p1
  obtain ⟨f2, f3⟩ := hf p p0 p1
  rw [zrd_0, zrd_1, zrd_2]
  exact ⟨hs _ (by omega) (by omega), hs _ (by omega) (by omega), zsg_maj (hs _ (by omega) (by omega)) (hs _ (by omega) (by omega))⟩
/-- the net of a book as rows -/
theorem jSt.fl {mu : Mem} {N m S b : Int} (h : jSt mu N m S b) : ∀ i, 0 ≤ i → i < 3 * m → zfl mu S i = mu 77 (18 * b + i) ∧ zsg N (mu 77 (18 * b + i)) := by
  apply z3i
  intro p p0 p1
  have g := h.1 p p0 p1
  rw [zfl_0, zfl_1, zfl_2, show 18 * b + (3 * p + 1) = 18 * b + 3 * p + 1 by omega, show 18 * b + (3 * p + 2) = 18 * b + 3 * p + 2 by omega]
  exact g
theorem jSt.of {mu : Mem} {N m S b : Int} (h : ∀ i, 0 ≤ i → i < 3 * m → zfl mu S i = mu 77 (18 * b + i) ∧ zsg N (mu 77 (18 * b + i))) (h2 : mu S 4 = mu 78 b ∧ 0 ≤ mu S 4 ∧ mu S 4 ≤ 10) (h3 : ∀ i, 0 ≤ i → i < mu S 4 → mu (S + 4) i = mu 79 (10 * b + i) ∧ zsg N (mu 79 (10 * b + i))) : jSt mu N m S b := by
  refine ⟨fun p p0 p1 => ?_, h2, h3⟩
  have g0 := h (3 * p) (by omega) (by omega)
  have g1 := h (3 * p + 1) (by omega) (by omega)
  have g2 := h (3 * p + 2) (by omega) (by omega)
  rw [zfl_0] at g0
  rw [zfl_1, show 18 * b + (3 * p + 1) = 18 * b + 3 * p + 1 by omega] at g1
  rw [zfl_2, show 18 * b + (3 * p + 2) = 18 * b + 3 * p + 2 by omega] at g2
  exact ⟨g0, g1, g2⟩
section S47
variable {K d : Nat} {mu : Mem} {Q : AV → Mem → Prop}
theorem m_round (hd : 2 ≤ d) (hK : 93 ≤ K) (hm : 1 ≤ mu 74 0 ∧ mu 74 0 ≤ 6) (hf : ∀ p, 0 ≤ p → p < mu 74 0 → 0 ≤ mu 75 p ∧ mu 75 p < mu 74 0) (hv : ∀ i, 0 ≤ i → i < 3 * mu 74 0 → 0 ≤ mu 77 i ∧ mu 77 i ≤ 6)
    (h : ∀ nu, zsm [77, 90, 91] mu nu → (∀ i, 0 ≤ i → i < 3 * mu 74 0 → nu 77 i = zrd (mu 75) (mu 77) i) → (∀ i, 18 ≤ i → nu 77 i = mu 77 i) → Q (zI (zsum (fun p => if zrd (mu 75) (mu 77) (3 * p + 2) = 6 then 0 else 1) (mu 74 0).toNat)) nu) : zC K d mX9_round [zR 64] mu Q := by
  have cb := fun n => zsum_01 (f := fun p => if zrd (mu 75) (mu 77) (3 * p + 2) = 6 then 0 else 1) (fun i => by split <;> constructor <;> omega) n
  refine ce_X9_round (sg_X9_round_0 hd hK ⟨⟨by omega, by omega⟩, fun c => ?_, fun c => absurd c (by omega)⟩)
  refine m_takeNet hK (fun nu1 z1 t1 => ⟨rfl, ?_⟩)
  have e74 : nu1 74 = mu 74 := z1 74 (by decide)
  have e75 : nu1 75 = mu 75 := z1 75 (by decide)
  refine m_goRound (by omega) hK (by rw [e74]; omega) (by rw [e74, e75]; exact hf) (fun i i0 i1 => by rw [e74] at i1; rw [t1 i i0 (by omega)]; exact hv i i0 i1) (fun nu2 z2 t2 => ⟨rfl, ?_⟩)
  rw [e74, e75] at t2
  have t3 : ∀ i, 0 ≤ i → i < 3 * mu 74 0 → nu2 90 i = zrd (mu 75) (mu 77) i := fun i i0 i1 => by
    rw [t2 i i0 i1]
    exact zrd_congr (m := mu 74 0) (fun p p0 p1 => ⟨rfl, hf p p0 p1⟩) (fun i i0 i1 => t1 i i0 (by omega)) i i0 i1
  have z3 : zsm [90, 91] mu nu2 := (z1.wk (by simp)).tr z2
  have hb : ∀ i, 0 ≤ i → i < 3 * mu 74 0 → 0 ≤ nu2 90 i ∧ nu2 90 i ≤ 6 := by
    apply z3i
    intro p p0 p1
    obtain ⟨f2, f3⟩ := hf p p0 p1
    rw [t3 _ (by omega) (by omega), t3 _ (by omega) (by omega), t3 _ (by omega) (by omega), zrd_0, zrd_1, zrd_2]
    exact ⟨hv _ (by omega) (by omega), hv _ (by omega) (by omega), zmaj_bd (hv _ (by omega) (by omega)) (hv _ (by omega) (by omega)) (hv _ (by omega) (by omega))⟩
  have l : ∀ (n : Nat) (j c : Int) (nu : Mem), 0 ≤ j → j + n = 18 → c = zsum (fun p => if zrd (mu 75) (mu 77) (3 * p + 2) = 6 then 0 else 1) (min (j / 3) (mu 74 0)).toNat → zsm [77] nu2 nu → (∀ i, 0 ≤ i → i < j → nu 77 i = nu2 90 i) → (∀ i, j ≤ i → nu 77 i = mu 77 i) → zG K d mX9_round 24 [zR 64, zI c, zI j] [] nu Q := by
    intro n
    induction n with
    | zero =>
      intro j c nu j0 j1 hc hz h1 h2
      have e : j = 18 := by omega
      subst e
      refine sg_X9_round_24 hd hK ⟨⟨by omega, by omega⟩, fun _ => ?_, fun q => absurd q (by omega)⟩
      rw [hc, show (min ((18 : Int) / 3) (mu 74 0)).toNat = (mu 74 0).toNat by omega]
      exact h nu ((z3.wk (by simp)).tr (hz.wk (by simp))) (fun i i0 i1 => by rw [h1 i i0 (by omega), t3 i i0 i1]) h2
    | succ n ih =>
      intro j c nu j0 j1 hc hz h1 h2
      have n90 : nu 90 = nu2 90 := hz 90 (by decide)
      have n74 : nu 74 = mu 74 := (hz 74 (by decide)).trans (z3 74 (by decide))
      have cb1 := cb (min (j / 3) (mu 74 0)).toNat
      have em : j.tmod 3 = j % 3 := Int.tmod_eq_emod_of_nonneg j0
      have w74 : (zup nu 77 j (nu 90 j)) 74 0 = mu 74 0 := by rw [zup_cell _ (by decide), n74]
      have w90 : (zup nu 77 j (nu 90 j)) 90 j = nu2 90 j := by rw [zup_cell _ (by decide), n90]
      have g1 : zsm [77] nu2 (zup nu 77 j (nu 90 j)) := hz.up (by simp)
      have g2 : ∀ i, 0 ≤ i → i < j + 1 → (zup nu 77 j (nu 90 j)) 77 i = nu2 90 i := fun i i0 i1 => by
        by_cases hi : i = j
        · rw [hi, zup_same, n90]
        · rw [zup_slot _ hi]
          exact h1 i i0 (by omega)
      have g3 : ∀ i, j + 1 ≤ i → (zup nu 77 j (nu 90 j)) 77 i = mu 77 i := fun i i0 => by
        rw [zup_slot _ (by omega)]
        exact h2 i (by omega)
      refine sg_X9_round_24 hd hK ⟨⟨by omega, by omega⟩, fun q => absurd q (by omega), fun _ => ⟨j0, by omega, by omega, ?_⟩⟩
      rw [em, w74, w90]
      refine ⟨⟨by omega, by omega⟩, fun c1 => ?_, fun c1 => ⟨⟨by omega, by omega⟩, fun c2 => ?_, fun c2 => ?_⟩⟩
      · refine ih (j + 1) (c + 0) _ (by omega) (by omega) ?_ g1 g2 g3
        rw [show (min ((j + 1) / 3) (mu 74 0)) = min (j / 3) (mu 74 0) by omega, ← hc]
        omega
      · refine ih (j + 1) (c + 0) _ (by omega) (by omega) ?_ g1 g2 g3
        rw [show (min ((j + 1) / 3) (mu 74 0)) = min (j / 3) (mu 74 0) by omega, ← hc]
        omega
      · have b := hb j j0 (by omega)
        have ep : (min ((j + 1) / 3) (mu 74 0)).toNat = (min (j / 3) (mu 74 0)).toNat + 1 := by omega
        have eq : (((min (j / 3) (mu 74 0)).toNat : Nat) : Int) = j / 3 := by omega
        have ej : 3 * (j / 3) + 2 = j := by omega
        refine ⟨⟨by omega, by omega⟩, fun c3 => ?_, fun c3 => ?_⟩
        · refine ih (j + 1) (c + 0) _ (by omega) (by omega) ?_ g1 g2 g3
          rw [ep, zsum, eq, ej, if_pos (by rw [← t3 j j0 (by omega)]; omega), ← hc]
        · refine ih (j + 1) (c + 1) _ (by omega) (by omega) ?_ g1 g2 g3
          rw [ep, zsum, eq, ej, if_neg (by rw [← t3 j j0 (by omega)]; omega), ← hc]
  refine l 18 0 0 nu2 (by omega) (by omega) ?_ zsm.rf (fun i i0 i1 => absurd i1 (by omega)) (fun i _ => by rw [z3 77 (by decide)])
  rw [show (min ((0 : Int) / 3) (mu 74 0)).toNat = 0 by omega]
  rfl
end S47
theorem op_round : zOp 2 2 mX8_round mX9_round [] := by
  intro mu P hJ
  have hK : 64 ≤ 93 := by decide
  have hK' : 93 ≤ 93 := by decide
  have hJ0 := hJ
  obtain ⟨h1, h2, h3, h4, h5, h6, h7⟩ := hJ
  have hPi := h1.isP hK
  have hP : P = 4 ∨ P = 13 := by rcases h1.2 with h | h <;> omega
  have h10 := h1
  obtain ⟨rfl, -⟩ := h1
  have h20 := h2
  obtain ⟨⟨t1, t2, t3⟩, -, -, -, ⟨m1, m2, m3⟩, -, -, -, -, hf⟩ := h2
  have hfl := h3.fl
  have hfl : ∀ i, 0 ≤ i → i < 3 * mu (mu 0 3) 4 → zfl mu 22 i = mu 77 i ∧ zsg (mu (mu 0 3) 0) (mu 77 i) := fun i i0 i1 => by
    have := hfl i i0 i1
    rwa [show 18 * (0 : Int) + i = i by omega] at this
  refine ce_X8_round (sg_X8_round_0 (by omega) hK ⟨hPi, ⟨by omega, by omega⟩, fun c => ?_, fun c => ?_⟩)
  · refine s_advance (by omega) hK hPi ⟨by omega, by omega⟩ ⟨m2, m3⟩ (fun p p0 p1 => by rw [(hf p p0 p1).1]; exact (hf p p0 p1).2) (fun i i0 i1 => by
      have := hfl i i0 i1
      rw [this.1]
      have q := this.2
      unfold zsg at q
      omega) (fun nu z w => ⟨_, rfl, _, ?_, rfl, ?_⟩)
    · have cb := zsum_01 (f := fun p => if zrd (mu (mu 0 3 + 5)) (zfl mu 22) (3 * p + 2) = 6 then 0 else 1) (fun i => by split <;> constructor <;> omega) (mu (mu 0 3) 4).toNat
      exact ⟨by omega, by omega⟩
    · have e : ∀ k : Int, k ≠ 57 → k ≠ 23 → k ≠ 24 → k ≠ 25 → nu k = mu k := fun k q1 q2 q3 q4 => z k (by simp only [List.mem_cons, List.not_mem_nil, or_false]; omega)
      have e74 : nu 74 = mu 74 := e 74 (by decide) (by decide) (by decide) (by decide)
      have e75 : nu 75 = mu 75 := e 75 (by decide) (by decide) (by decide) (by decide)
      have e77 : nu 77 = mu 77 := e 77 (by decide) (by decide) (by decide) (by decide)
      have hcg := zrd_congr (f := mu (mu 0 3 + 5)) (f' := mu 75) (s := zfl mu 22) (s' := mu 77) (m := mu (mu 0 3) 4) hf (fun i i0 i1 => (hfl i i0 i1).1)
      refine m_round (by omega) hK' (by rw [e74]; omega) (by rw [e74, e75, ← m1]; exact fun p p0 p1 => (hf p p0 p1).2) (fun i i0 i1 => by
        rw [e74, ← m1] at i1
        have q := (hfl i i0 i1).2
        rw [e77]
        unfold zsg at q
        omega) (fun xi x1 x2 x3 => ?_)
      rw [e74, e75, e77, ← m1] at x2
      rw [e77] at x3
      rw [e74, e75, e77, ← m1]
      refine ⟨?_, mu 0 3, ?_⟩
      · congr 1
        apply zsum_congr
        intro p p0 p1
        rw [hcg (3 * p + 2) (by omega) (by omega)]
      · have ex : ∀ k : Int, k ≠ 77 → k ≠ 90 → k ≠ 91 → xi k = nu k := fun k q1 q2 q3 => x1 k (by simp only [List.mem_cons, List.not_mem_nil, or_false]; omega)
        have em : ∀ k : Int, k ≠ 77 → k ≠ 90 → k ≠ 91 → k ≠ 57 → k ≠ 23 → k ≠ 24 → k ≠ 25 → xi k = mu k := fun k q1 q2 q3 q4 q5 q6 q7 => (ex k q1 q2 q3).trans (e k q4 q5 q6 q7)
        obtain ⟨f1, f2, f3⟩ := jst (nu := xi) hP ⟨h20, h6, h7⟩ (fun k hk => em k (by omega) (by omega) (by omega) (by omega) (by omega) (by omega) (by omega))
        have pp : xi (mu 0 3) = mu (mu 0 3) := em _ (by omega) (by omega) (by omega) (by omega) (by omega) (by omega) (by omega)
        have e0 : xi 0 = mu 0 := em 0 (by decide) (by decide) (by decide) (by decide) (by decide) (by decide) (by decide)
        have e64 : xi 64 = mu 64 := em 64 (by decide) (by decide) (by decide) (by decide) (by decide) (by decide) (by decide)
        have e22 : xi 22 = mu 22 := em 22 (by decide) (by decide) (by decide) (by decide) (by decide) (by decide) (by decide)
        have e26 : xi 26 = mu 26 := em 26 (by decide) (by decide) (by decide) (by decide) (by decide) (by decide) (by decide)
        have e78 : xi 78 = mu 78 := em 78 (by decide) (by decide) (by decide) (by decide) (by decide) (by decide) (by decide)
        have e79 : xi 79 = mu 79 := em 79 (by decide) (by decide) (by decide) (by decide) (by decide) (by decide) (by decide)
        refine ⟨h10.c (by rw [e0]) (by rw [e0]), f1, ?_, h4.c (by rw [e0]) (by rw [e64]) (em 1 (by decide) (by decide) (by decide) (by decide) (by decide) (by decide) (by decide)) (em 65 (by decide) (by decide) (by decide) (by decide) (by decide) (by decide) (by decide)), ?_, f2, f3⟩
        · rw [pp]
          refine jSt.of (fun i i0 i1 => ?_) ?_ ?_
          · have ef : zfl xi 22 i = zfl nu 22 i := by
              unfold zfl
              rw [ex _ (by omega) (by omega) (by omega)]
            rw [show 18 * (0 : Int) + i = i by omega, ef, w i i0 i1, x2 i i0 i1, hcg i i0 i1]
            exact ⟨rfl, zrd_sg (m := mu (mu 0 3) 4) (fun p p0 p1 => (hf p p0 p1).2) (fun i i0 i1 => (hfl i i0 i1).2) i i0 i1⟩
          · rw [e22, e78]
            exact h3.2.1
          · show ∀ i, 0 ≤ i → i < xi 22 4 → xi 26 i = _ ∧ _
            rw [e22, e26, e79]
            exact h3.2.2
        · rw [pp]
          exact h5.c m3 (by rw [e0]) (by rw [e64]) (fun k k0 k1 => em k (by omega) (by omega) (by omega) (by omega) (by omega) (by omega) (by omega)) (fun i i0 => x3 i i0) (fun i _ => by rw [e78]) (fun i _ => by rw [e79])
  · refine ⟨_, ⟨by omega, by omega⟩, rfl, ?_⟩
    exact ce_X9_round (sg_X9_round_0 (by omega) hK' ⟨⟨by omega, by omega⟩, fun c2 => absurd (by omega) c2, fun c2 => ⟨rfl, _, hJ0⟩⟩)
