/-! gifts, posts, keep and back -/
theorem op_noGifts : zOp 0 0 mX8_noGifts mX9_noGifts [] := by
  intro mu P hJ
  have hK : 64 ≤ 93 := by decide
  have hK' : 93 ≤ 93 := by decide
  obtain ⟨h1, h2, h3, h4, h5, h6, h7⟩ := hJ
  have hP : P = 4 ∨ P = 13 := by rcases h1.2 with h | h <;> omega
  obtain ⟨g1, ⟨g2, g3, g4⟩, g5⟩ := h3
  refine ce_X8_noGifts (sg_X8_noGifts_0 (by omega) hK ⟨_, ⟨by omega, by omega⟩, rfl, ?_⟩)
  refine ce_X9_noGifts (sg_X9_noGifts_0 (by omega) hK' ⟨?_, P, ?_⟩)
  · rw [zup_cell mu (by decide), g2]
  · have e : ∀ k : Int, k ≠ 22 → k ≠ 78 → zup (zup mu 22 4 0) 78 0 0 k = mu k := fun k q1 q2 => by rw [zup_row _ q2, zup_row _ q1]
    obtain ⟨f1, f2, f3⟩ := jst (nu := zup (zup mu 22 4 0) 78 0 0) hP ⟨h2, h6, h7⟩ (fun k hk => e k (by omega) (by omega))
    have pp : zup (zup mu 22 4 0) 78 0 0 P = mu P := e P (by omega) (by omega)
    have e0 := e 0 (by decide) (by decide)
    have hm := h2.2.2.2.2.1.2.2
    have e22 : zup (zup mu 22 4 0) 78 0 0 22 4 = 0 := by rw [zup_cell _ (by decide), zup_same]
    refine ⟨h1.c (by rw [e0]) (by rw [e0]), f1, ?_, h4.c (by rw [e0]) (by rw [e 64 (by decide) (by decide)]) (e _ (by decide) (by decide)) (e _ (by decide) (by decide)), ?_, f2, f3⟩
    · rw [pp]
      refine ⟨fun p q1 q2 => ?_, ⟨?_, ?_, ?_⟩, fun i q1 q2 => ?_⟩
      · rw [e (22 + 1) (by decide) (by decide), e (22 + 2) (by decide) (by decide), e (22 + 3) (by decide) (by decide), e 77 (by decide) (by decide)]
        exact g1 p q1 q2
      · rw [e22, zup_same]
      · rw [e22]
        omega
      · rw [e22]
        omega
      · rw [e22] at q2
        exact absurd q2 (by omega)
    · rw [pp]
      exact h5.c hm (by rw [e0]) (by rw [e 64 (by decide) (by decide)]) (fun k q1 q2 => e k (by omega) (by omega)) (fun i _ => by rw [e 77 (by decide) (by decide)]) (fun i q => by rw [zup_slot _ (by omega), zup_cell _ (by decide)]) (fun i _ => by rw [e 79 (by decide) (by decide)])
theorem op_gift (a1 : Int) (ha : zin a1) : zOp 3 3 mX8_gift mX9_gift [zI a1] := by
  intro mu P hJ
  have hK : 64 ≤ 93 := by decide
  have hK' : 93 ≤ 93 := by decide
  have hJ0 := hJ
  obtain ⟨h1, h2, h3, h4, h5, h6, h7⟩ := hJ
  have hPi := h1.isP hK
  have hP : P = 4 ∨ P = 13 := by rcases h1.2 with h | h <;> omega
  have h10 := h1
  obtain ⟨rfl, -⟩ := h1
  have h20 := h2
  obtain ⟨⟨t1, t2, t3⟩, -, -, -, ⟨-, -, hm⟩, -⟩ := h2
  obtain ⟨g1, ⟨g2, g3, g4⟩, g5⟩ := h3
  refine ce_X8_gift (sg_X8_gift_0 (by omega) hK (s_isSign (by omega) hK hPi ha ⟨t2, t3⟩ ⟨_, rfl, zbin _, fun c => ⟨⟨by omega, by omega⟩, fun c2 => ⟨by omega, by omega, ?_⟩, fun c2 => ?_⟩, fun c => ?_⟩))
  · have cs : zsg (mu (mu 0 3) 0) a1 := by
      split at c
      · assumption
      · omega
    have e26 : zup mu 26 (mu 22 4) a1 22 4 = mu 22 4 := zup_cell _ (by decide)
    rw [e26, zup_same]
    refine ⟨_, ⟨by omega, by omega⟩, rfl, ?_⟩
    have k66 : ∀ k : Int, k ≠ 22 → k ≠ 26 → zup (zup mu 26 (mu 22 4) a1) 22 4 (mu 22 4 + 1) k = mu k := fun k q1 q2 => by rw [zup_row _ q1, zup_row _ q2]
    refine ce_X9_gift (sg_X9_gift_0 (by omega) hK' (m_isGift (by omega) hK' ha (by rw [k66 66 (by decide) (by decide)]; omega) ⟨_, rfl, zbin _, fun c3 => ?_, fun c3 => ?_⟩))
    · rw [k66 78 (by decide) (by decide)]
      refine ⟨⟨by omega, by omega⟩, fun c4 => ⟨by omega, by omega, ?_⟩, fun c4 => absurd c4 (by omega)⟩
      have e79 : zup (zup (zup mu 26 (mu 22 4) a1) 22 4 (mu 22 4 + 1)) 79 (mu 78 0) a1 78 0 = mu 78 0 := by rw [zup_cell _ (by decide), zup_cell _ (by decide), zup_cell _ (by decide)]
      rw [e79, zup_same]
      refine ⟨by rw [g2], mu 0 3, ?_⟩
      generalize hnu : zup (zup (zup (zup mu 26 (mu 22 4) a1) 22 4 (mu 22 4 + 1)) 79 (mu 78 0) a1) 78 0 (mu 78 0 + 1) = nu
      have e : ∀ k : Int, k ≠ 22 → k ≠ 26 → k ≠ 78 → k ≠ 79 → nu k = mu k := fun k q1 q2 q3 q4 => by rw [← hnu, zup_row _ q3, zup_row _ q4, k66 k q1 q2]
      have f22 : nu 22 4 = mu 22 4 + 1 := by rw [← hnu, zup_cell _ (by decide), zup_cell _ (by decide), zup_same]
      have f78 : nu 78 0 = mu 78 0 + 1 := by rw [← hnu, zup_same]
      have f26 : ∀ i : Int, nu 26 i = if i = mu 22 4 then a1 else mu 26 i := fun i => by
        rw [← hnu, zup_cell _ (by decide), zup_cell _ (by decide), zup_cell _ (by decide)]
        by_cases hi : i = mu 22 4
        · rw [if_pos hi, hi, zup_same]
        · rw [if_neg hi, zup_slot _ hi]
      have f79 : ∀ i : Int, nu 79 i = if i = mu 22 4 then a1 else mu 79 i := fun i => by
        rw [← hnu, zup_cell _ (by decide), ← g2]
        by_cases hi : i = mu 22 4
        · rw [if_pos hi, hi, zup_same]
        · rw [if_neg hi, zup_slot _ hi, zup_cell _ (by decide), zup_cell _ (by decide)]
      have f78' : ∀ i : Int, 1 ≤ i → nu 78 i = mu 78 i := fun i q => by rw [← hnu, zup_slot _ (by omega), zup_cell _ (by decide), zup_cell _ (by decide), zup_cell _ (by decide)]
      obtain ⟨j1, j2, j3⟩ := jst (nu := nu) hP ⟨h20, h6, h7⟩ (fun k hk => e k (by omega) (by omega) (by omega) (by omega))
      have pp : nu (mu 0 3) = mu (mu 0 3) := e _ (by omega) (by omega) (by omega) (by omega)
      have e0 := e 0 (by decide) (by decide) (by decide) (by decide)
      refine ⟨h10.c (by rw [e0]) (by rw [e0]), j1, ?_, h4.c (by rw [e0]) (by rw [e 64 (by decide) (by decide) (by decide) (by decide)]) (e _ (by decide) (by decide) (by decide) (by decide)) (e _ (by decide) (by decide) (by decide) (by decide)), ?_, j2, j3⟩
      · rw [pp]
        refine ⟨fun p q1 q2 => ?_, ⟨by omega, by omega, by omega⟩, fun i q1 q2 => ?_⟩
        · rw [e (22 + 1) (by decide) (by decide) (by decide) (by decide), e (22 + 2) (by decide) (by decide) (by decide) (by decide), e (22 + 3) (by decide) (by decide) (by decide) (by decide), e 77 (by decide) (by decide) (by decide) (by decide)]
          exact g1 p q1 q2
        · show nu 26 i = _ ∧ _
          rw [f26, f79, show 10 * (0 : Int) + i = i by omega]
          by_cases hi : i = mu 22 4
          · rw [if_pos hi, if_pos hi]
            exact ⟨rfl, cs⟩
          · rw [if_neg hi, if_neg hi]
            have := g5 i q1 (by omega)
            rw [show 10 * (0 : Int) + i = i by omega] at this
            exact this
      · rw [pp]
        exact h5.c hm (by rw [e0]) (by rw [e 64 (by decide) (by decide) (by decide) (by decide)]) (fun k q1 q2 => e k (by omega) (by omega) (by omega) (by omega)) (fun i _ => by rw [e 77 (by decide) (by decide) (by decide) (by decide)]) f78' (fun i q => by rw [f79, if_neg (by omega)])
    · exfalso
      rw [k66 66 (by decide) (by decide), ← t1] at c3
      exact c c3
  · refine ⟨_, ⟨by omega, by omega⟩, rfl, ?_⟩
    refine ce_X9_gift (sg_X9_gift_0 (by omega) hK' (m_isGift (by omega) hK' ha (by omega) ⟨_, rfl, zbin _, fun c3 => ⟨⟨by omega, by omega⟩, fun c4 => absurd (by omega) c4, fun c4 => ⟨rfl, _, hJ0⟩⟩, fun c3 => ?_⟩))
    exfalso
    rw [← t1] at c3
    exact c c3
  · refine ⟨_, ⟨by omega, by omega⟩, rfl, ?_⟩
    refine ce_X9_gift (sg_X9_gift_0 (by omega) hK' (m_isGift (by omega) hK' ha (by omega) ⟨_, rfl, zbin _, fun c3 => ?_, fun c3 => ⟨rfl, _, hJ0⟩⟩))
    exfalso
    rw [← t1] at c3
    exact c3 c
theorem op_post (a1 a2 : Int) (ha : zin a1) (hb : zin a2) : zOp 1 2 mX8_post mX9_post [zI a1, zI a2] := by
  intro mu P hJ
  have hK : 64 ≤ 93 := by decide
  have hK' : 93 ≤ 93 := by decide
  have hJ0 := hJ
  obtain ⟨h1, h2, h3, h4, h5, h6, h7⟩ := hJ
  have hPi := h1.isP hK
  obtain ⟨rfl, -⟩ := h1
  obtain ⟨⟨t1, t2, t3⟩, -, -, -, ⟨m1, m2, hm⟩, -, -, -, -, hf⟩ := h2
  obtain ⟨g1, -⟩ := h3
  have hM : ∀ r : Int, (¬ (0 ≤ a1 ∧ a1 ≤ mu (mu 0 3) 4 - 1) → r = -1) → ((0 ≤ a1 ∧ a1 ≤ mu (mu 0 3) 4 - 1) → (¬ (0 ≤ a2 ∧ a2 ≤ 3) → r = -1) ∧ (a2 = 0 → mu 75 a1 = r) ∧ (1 ≤ a2 → a2 ≤ 3 → mu 77 (3 * a1 + a2 - 1) = r)) → zC 93 2 mX9_post [zR 64, zI a1, zI a2] mu (fun v' nu' => v' = zI r ∧ ∃ P', jJ nu' P') := fun r r1 r2 => by
    refine ce_X9_post (sg_X9_post_0 (by omega) hK' (m_isPost (by omega) hK' ha (by omega) ⟨_, rfl, zbin _, fun c => ⟨?_, _, hJ0⟩, fun c => ⟨hb, s_in hK' (zil_of hb) ⟨by omega, by omega⟩ ⟨by omega, by omega⟩ ⟨_, rfl, zbin _, fun c2 => ⟨fun c3 => ⟨?_, ?_, ?_, _, hJ0⟩, fun c3 => ⟨?_, ?_, ?_, _, hJ0⟩⟩, fun c2 => ⟨?_, _, hJ0⟩⟩⟩⟩))
    · rw [r1 (by split at c <;> omega)]
    · split at c <;> split at c2 <;> omega
    · split at c <;> split at c2 <;> omega
    · rw [(r2 (by split at c <;> omega)).2.2 (by split at c2 <;> omega) (by split at c2 <;> omega)]
    · split at c <;> omega
    · split at c <;> omega
    · rw [(r2 (by split at c <;> omega)).2.1 c3]
    · rw [(r2 (by split at c <;> omega)).1 (by split at c2 <;> omega)]
  refine ce_X8_post (sg_X8_post_0 (by omega) hK ⟨hPi, s_within hK ha ⟨by omega, by omega⟩ ⟨by omega, by omega⟩ ⟨_, rfl, zbin _, fun c => ?_, fun c => s_within hK hb ⟨by omega, by omega⟩ ⟨by omega, by omega⟩ ⟨_, rfl, zbin _, fun c2 => ⟨hb, fun c3 => ⟨?_, ?_, ?_⟩, fun c3 => ⟨hPi, ?_, ?_, ?_⟩, fun c3 => ⟨?_, ?_, ?_⟩, fun c3 => ⟨?_, ?_, ?_⟩⟩, fun c2 => ?_⟩⟩⟩)
  · exact ⟨_, ⟨by omega, by omega⟩, rfl, hM _ (fun _ => rfl) (fun q => by split at c <;> omega)⟩
  all_goals first | (split at c <;> omega) | skip
  · have q : 0 ≤ a1 ∧ a1 ≤ mu (mu 0 3) 4 - 1 := by split at c <;> omega
    have z := g1 a1 q.1 (by omega)
    rw [show 18 * (0 : Int) + 3 * a1 = 3 * a1 by omega] at z
    have z3 := z.2.2.2
    refine ⟨_, ?_, rfl, hM _ (fun q2 => absurd q q2) (fun _ => ⟨fun q3 => ?_, fun q3 => ?_, fun q3 q4 => ?_⟩)⟩
    · show zin (mu 25 a1)
      rw [show mu 25 a1 = _ from z.2.2.1]
      unfold zsg at z3
      exact ⟨by omega, by omega⟩
    · split at c2 <;> omega
    · omega
    · split at c2
      · rw [show a2 = 3 by omega, show 3 * a1 + 3 - 1 = 3 * a1 + 2 by omega]
        exact z.2.2.1.symm
      · omega
  · have q : 0 ≤ a1 ∧ a1 ≤ mu (mu 0 3) 4 - 1 := by split at c <;> omega
    have z := hf a1 q.1 (by omega)
    exact ⟨_, ⟨by omega, by omega⟩, rfl, hM _ (fun q2 => absurd q q2) (fun _ => ⟨fun q3 => by omega, fun q3 => z.1.symm, fun q3 q4 => by omega⟩)⟩
  · have q : 0 ≤ a1 ∧ a1 ≤ mu (mu 0 3) 4 - 1 := by split at c <;> omega
    have z := g1 a1 q.1 (by omega)
    rw [show 18 * (0 : Int) + 3 * a1 = 3 * a1 by omega] at z
    have z3 := z.1.2
    refine ⟨_, ?_, rfl, hM _ (fun q2 => absurd q q2) (fun _ => ⟨fun q3 => by omega, fun q3 => by omega, fun q3 q4 => ?_⟩)⟩
    · show zin (mu 23 a1)
      rw [show mu 23 a1 = _ from z.1.1]
      unfold zsg at z3
      exact ⟨by omega, by omega⟩
    · rw [c3, show 3 * a1 + 1 - 1 = 3 * a1 by omega]
      exact z.1.1.symm
  · have q : 0 ≤ a1 ∧ a1 ≤ mu (mu 0 3) 4 - 1 := by split at c <;> omega
    have z := g1 a1 q.1 (by omega)
    rw [show 18 * (0 : Int) + 3 * a1 = 3 * a1 by omega] at z
    have z3 := z.2.1.2
    refine ⟨_, ?_, rfl, hM _ (fun q2 => absurd q q2) (fun _ => ⟨fun q3 => by omega, fun q3 => by omega, fun q3 q4 => ?_⟩)⟩
    · show zin (mu 24 a1)
      rw [show mu 24 a1 = _ from z.2.1.1]
      unfold zsg at z3
      exact ⟨by omega, by omega⟩
    · rw [c3, show 3 * a1 + 2 - 1 = 3 * a1 + 1 by omega]
      exact z.2.1.1.symm
  · have q : 0 ≤ a1 ∧ a1 ≤ mu (mu 0 3) 4 - 1 := by split at c <;> omega
    exact ⟨_, ⟨by omega, by omega⟩, rfl, hM _ (fun q2 => absurd q q2) (fun _ => ⟨fun q3 => rfl, fun q3 => by split at c2 <;> omega, fun q3 q4 => by split at c2 <;> omega⟩)⟩
