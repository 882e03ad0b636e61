/-! lay -/
section S80
variable {K d : Nat} {mu : Mem} {Q : AV → Mem → Prop}
theorem s_holdsTogether {P : Int} (hK : 64 ≤ K) (hP : isP K P) (h3 : 0 ≤ mu P 3 ∧ mu P 3 ≤ 10) (h0 : 2 ≤ mu P 0 ∧ mu P 0 ≤ 6) (h13 : -1 ≤ mu P 13 ∧ mu P 13 ≤ 5) (h14 : -1 ≤ mu P 14 ∧ mu P 14 ≤ 5) (h4 : 0 ≤ mu P 4 ∧ mu P 4 ≤ 6) (h : Q (zI (if 0 < mu P 3 ∧ mu P 13 < mu P 0 ∧ mu P 14 < mu P 4 then 1 else 0)) mu) : zC K d mX2_holdsTogether [zR P] mu Q := by
  refine ce_X2_holdsTogether (sg_X2_holdsTogether_0 (by omega) hK hP ⟨⟨by omega, by omega⟩, fun q => ?_, fun q => ⟨⟨by omega, by omega⟩, ⟨by omega, by omega⟩, fun q2 => ?_, fun q2 => ⟨⟨by omega, by omega⟩, ⟨by omega, by omega⟩, fun q3 => ?_, fun q3 => ?_⟩⟩⟩)
  · rwa [if_neg (by omega)] at h
  · rwa [if_neg (by omega)] at h
  · rwa [if_neg (by omega)] at h
  · rwa [if_pos (by omega)] at h
/-- the reference lays its book 1 -/
theorem m_lay109 (hd : 5 ≤ d) (hK : 93 ≤ K)
    (h : ∀ nu, zsm [64, 69, 71, 72, 73, 75, 77, 78] mu nu → (∀ j, j ≠ 16 → nu 64 j = mu 64 j) → nu 64 16 = 0 → nu 78 0 = 0 → (∀ i, 0 ≤ i → i < 6 → nu 69 i = mu 69 (6 + i) ∧ nu 73 i = mu 73 (6 + i) ∧ nu 75 i = mu 75 (6 + i)) → (∀ i, 0 ≤ i → i < 10 → nu 71 i = mu 71 (10 + i)) → (∀ i, 0 ≤ i → i < 42 → nu 72 i = mu 72 (42 + i)) → (∀ i, 0 ≤ i → i < 18 → nu 77 i = mu 76 (18 + i)) → Q (zI (mu 70 0)) nu) : zG K d mX9_lay 109 [zR 64, zI 0] [] mu Q := by
  have l226 : ∀ (q : Nat) (i : Int) (nu : Mem), 0 ≤ i → i + q = 18 → zsm [69, 71, 72, 73, 75, 77] mu nu → (∀ i, 0 ≤ i → i < 6 → nu 69 i = mu 69 (6 + i) ∧ nu 73 i = mu 73 (6 + i) ∧ nu 75 i = mu 75 (6 + i)) → (∀ i, 0 ≤ i → i < 10 → nu 71 i = mu 71 (10 + i)) → (∀ i, 0 ≤ i → i < 42 → nu 72 i = mu 72 (42 + i)) → (∀ j, 0 ≤ j → j < i → nu 77 j = mu 76 (18 + j)) → zG K d mX9_lay 226 [zR 64, zI i] [] nu Q := by
    intro q
    induction q with
    | zero =>
      intro i nu i0 i1 hz h6 h10 h42 h18
      have e : i = 18 := by omega
      subst e
      refine sg_X9_lay_226 hd hK ⟨⟨by omega, by omega⟩, fun _ => ?_, fun z => absurd (by omega) z⟩
      rw [zup_cell _ (show (70 : Int) ≠ 64 by decide), zup_cell _ (show (70 : Int) ≠ 78 by decide), hz 70 (by decide)]
      refine h _ (((hz.wk (by simp)).up (by simp)).up (by simp)) (fun j hj => by rw [zup_slot _ hj, zup_cell _ (by decide), hz 64 (by decide)]) (zup_same _ _ _ _) (by rw [zup_cell _ (by decide), zup_same]) (fun i i0 i1 => by rw [zup_cell _ (by decide), zup_cell _ (by decide), zup_cell _ (by decide), zup_cell _ (by decide), zup_cell _ (by decide), zup_cell _ (by decide)]; exact h6 i i0 i1) (fun i i0 i1 => by rw [zup_cell _ (by decide), zup_cell _ (by decide)]; exact h10 i i0 i1) (fun i i0 i1 => by rw [zup_cell _ (by decide), zup_cell _ (by decide)]; exact h42 i i0 i1) (fun i i0 i1 => by rw [zup_cell _ (by decide), zup_cell _ (by decide)]; exact h18 i i0 i1)
    | succ q ih =>
      intro i nu i0 i1 hz h6 h10 h42 h18
      refine sg_X9_lay_226 hd hK ⟨⟨by omega, by omega⟩, fun z => absurd z (by omega), fun _ => ⟨by omega, by omega, by omega, by omega, ih (i + 1) _ (by omega) (by omega) (hz.up (by simp)) (fun i i0 i1 => by rw [zup_cell _ (by decide), zup_cell _ (by decide), zup_cell _ (by decide)]; exact h6 i i0 i1) (fun i i0 i1 => by rw [zup_cell _ (by decide)]; exact h10 i i0 i1) (fun i i0 i1 => by rw [zup_cell _ (by decide)]; exact h42 i i0 i1) (fun j j0 j1 => ?_)⟩⟩
      by_cases z : j = i
      · rw [z, zup_same, hz 76 (by decide)]
      · rw [zup_slot _ z]
        exact h18 j j0 (by omega)
  have l197 : ∀ (q : Nat) (i : Int) (nu : Mem), 0 ≤ i → i + q = 42 → zsm [69, 71, 72, 73, 75] mu nu → (∀ i, 0 ≤ i → i < 6 → nu 69 i = mu 69 (6 + i) ∧ nu 73 i = mu 73 (6 + i) ∧ nu 75 i = mu 75 (6 + i)) → (∀ i, 0 ≤ i → i < 10 → nu 71 i = mu 71 (10 + i)) → (∀ j, 0 ≤ j → j < i → nu 72 j = mu 72 (42 + j)) → (∀ j, 42 ≤ j → nu 72 j = mu 72 j) → zG K d mX9_lay 197 [zR 64, zI i] [] nu Q := by
    intro q
    induction q with
    | zero =>
      intro i nu i0 i1 hz h6 h10 h42 o42
      have e : i = 42 := by omega
      subst e
      exact sg_X9_lay_197 hd hK ⟨⟨by omega, by omega⟩, fun _ => l226 18 0 nu (by omega) (by omega) (hz.wk (by simp)) h6 h10 h42 (fun j j0 j1 => absurd j1 (by omega)), fun z => absurd (by omega) z⟩
    | succ q ih =>
      intro i nu i0 i1 hz h6 h10 h42 o42
      refine sg_X9_lay_197 hd hK ⟨⟨by omega, by omega⟩, fun z => absurd z (by omega), fun _ => ⟨by omega, by omega, by omega, by omega, ih (i + 1) _ (by omega) (by omega) (hz.up (by simp)) (fun i i0 i1 => by rw [zup_cell _ (by decide), zup_cell _ (by decide), zup_cell _ (by decide)]; exact h6 i i0 i1) (fun i i0 i1 => by rw [zup_cell _ (by decide)]; exact h10 i i0 i1) (fun j j0 j1 => ?_) (fun j hj => by rw [zup_slot _ (by omega)]; exact o42 j hj)⟩⟩
      by_cases z : j = i
      · rw [z, zup_same, o42 _ (by omega)]
      · rw [zup_slot _ z]
        exact h42 j j0 (by omega)
  have l168 : ∀ (q : Nat) (i : Int) (nu : Mem), 0 ≤ i → i + q = 10 → zsm [69, 71, 73, 75] mu nu → (∀ i, 0 ≤ i → i < 6 → nu 69 i = mu 69 (6 + i) ∧ nu 73 i = mu 73 (6 + i) ∧ nu 75 i = mu 75 (6 + i)) → (∀ j, 0 ≤ j → j < i → nu 71 j = mu 71 (10 + j)) → (∀ j, 10 ≤ j → nu 71 j = mu 71 j) → zG K d mX9_lay 168 [zR 64, zI i] [] nu Q := by
    intro q
    induction q with
    | zero =>
      intro i nu i0 i1 hz h6 h10 o10
      have e : i = 10 := by omega
      subst e
      exact sg_X9_lay_168 hd hK ⟨⟨by omega, by omega⟩, fun _ => l197 42 0 nu (by omega) (by omega) (hz.wk (by simp)) h6 h10 (fun j j0 j1 => absurd j1 (by omega)) (fun j _ => by rw [hz 72 (by decide)]), fun z => absurd (by omega) z⟩
    | succ q ih =>
      intro i nu i0 i1 hz h6 h10 o10
      refine sg_X9_lay_168 hd hK ⟨⟨by omega, by omega⟩, fun z => absurd z (by omega), fun _ => ⟨by omega, by omega, by omega, by omega, ih (i + 1) _ (by omega) (by omega) (hz.up (by simp)) (fun i i0 i1 => by rw [zup_cell _ (by decide), zup_cell _ (by decide), zup_cell _ (by decide)]; exact h6 i i0 i1) (fun j j0 j1 => ?_) (fun j hj => by rw [zup_slot _ (by omega)]; exact o10 j hj)⟩⟩
      by_cases z : j = i
      · rw [z, zup_same, o10 _ (by omega)]
      · rw [zup_slot _ z]
        exact h10 j j0 (by omega)
  have l109 : ∀ (q : Nat) (i : Int) (nu : Mem), 0 ≤ i → i + q = 6 → zsm [69, 73, 75] mu nu → (∀ j, 0 ≤ j → j < i → nu 69 j = mu 69 (6 + j) ∧ nu 73 j = mu 73 (6 + j) ∧ nu 75 j = mu 75 (6 + j)) → (∀ j, 6 ≤ j → nu 69 j = mu 69 j ∧ nu 73 j = mu 73 j ∧ nu 75 j = mu 75 j) → zG K d mX9_lay 109 [zR 64, zI i] [] nu Q := by
    intro q
    induction q with
    | zero =>
      intro i nu i0 i1 hz h6 o6
      have e : i = 6 := by omega
      subst e
      exact sg_X9_lay_109 hd hK ⟨⟨by omega, by omega⟩, fun _ => l168 10 0 nu (by omega) (by omega) (hz.wk (by simp)) h6 (fun j j0 j1 => absurd j1 (by omega)) (fun j _ => by rw [hz 71 (by decide)]), fun z => absurd (by omega) z⟩
    | succ q ih =>
      intro i nu i0 i1 hz h6 o6
      obtain ⟨o1, o2, o3⟩ := o6 (6 + i) (by omega)
      refine sg_X9_lay_109 hd hK ⟨⟨by omega, by omega⟩, fun z => absurd z (by omega), fun _ => ⟨by omega, by omega, by omega, by omega, ?_⟩⟩
      rw [zup_cell _ (show (73 : Int) ≠ 69 by decide), zup_cell _ (show (75 : Int) ≠ 73 by decide), zup_cell _ (show (75 : Int) ≠ 69 by decide), o1, o2, o3]
      refine ih (i + 1) _ (by omega) (by omega) (((hz.up (by simp)).up (by simp)).up (by simp)) (fun j j0 j1 => ?_) (fun j hj => ?_)
      · simp only [zup_app, Int.reduceEq, false_and, true_and, if_false, reduceIte]
        by_cases z : j = i
        · subst z
          rw [if_pos rfl, if_pos rfl, if_pos rfl]
          exact ⟨rfl, rfl, rfl⟩
        · rw [if_neg z, if_neg z, if_neg z]
          exact h6 j j0 (by omega)
      · simp only [zup_app, Int.reduceEq, false_and, true_and, if_false, reduceIte]
        rw [if_neg (by omega), if_neg (by omega), if_neg (by omega)]
        exact o6 j hj
  exact l109 6 0 mu (by omega) (by omega) zsm.rf (fun j j0 j1 => absurd j1 (by omega)) (fun j _ => ⟨rfl, rfl, rfl⟩)
end S80
theorem op_lay : zOp 6 5 mX8_lay mX9_lay [] := by
  intro mu P hJ
  have hK : 64 ≤ 93 := by decide
  have hK' : 93 ≤ 93 := by decide
  have hJ0 := hJ
  obtain ⟨h1, h2, h3, h4, h5, h6, h7⟩ := hJ
  have hPD := h1.2
  have eP := h1.1
  have hD : isP 93 (mu 0 4) := ⟨by omega, by rcases h1.2 with h | h <;> omega⟩
  have hD2 := hD.2
  obtain ⟨⟨x1, x2, x3⟩, x4⟩ := h4
  generalize hDD : mu 0 4 = D at *
  refine ce_X8_lay (sg_X8_lay_0 (by omega) hK ?_)
  rw [hDD]
  refine s_readInto (c := mu 65) (by omega) hK hD ⟨x2, x3⟩ x4 (fun B nu hz hv => ⟨_, rfl, ?_⟩)
  have rr := zgo_r (c := mu 65) (L := mu 0 1) ⟨x2, x3⟩ 300 0 (zcl B) (by omega) (by omega)
  have ok := zgo_ok (c := mu 65) (L := mu 0 1) 300 0 (zcl B) zcl_ok
  have hJ1 : jJ nu P := hJ0.cd (by rw [hDD]; exact hz)
  have e : ∀ k : Int, (k < 2 ∨ 22 ≤ k) → nu k = mu k := fun k hk => hz k (by
    simp only [List.mem_append, zPc_m, List.mem_cons, List.not_mem_nil, or_false]
    omega)
  have e0 := e 0 (by decide)
  -- the reference reads as well
  have md : ∀ (N : Mem) (Q' : AV → Mem → Prop), N 64 0 = mu 64 0 → N 65 = mu 65 → (∀ xi, zfM N xi → ((zgo (mu 65) (mu 0 1) 300 0 (zcl B)).1 = -4 → zRM (zgo (mu 65) (mu 0 1) 300 0 (zcl B)).2 xi) → Q' (zI (zgo (mu 65) (mu 0 1) 300 0 (zcl B)).1) xi) → zC 93 4 mX9_readAll [zR 64] N Q' := fun N Q' q1 q2 k => m_readAll (L := mu 0 1) (c := mu 65) (B := B) (by omega) hK' ⟨x2, x3⟩ (by rw [q1, x1]) q2 (fun i i0 i1 => (x4 i i0 i1).2) k
  generalize hR : zgo (mu 65) (mu 0 1) 300 0 (zcl B) = R at *
  refine ⟨⟨by omega, by omega⟩, fun q => ?_, fun q => ?_⟩
  · refine ⟨_, ⟨by omega, by omega⟩, rfl, ce_X9_lay (sg_X9_lay_0 (by omega) hK' (md nu _ (by rw [e 64 (by decide)]) (e 65 (by decide)) (fun xi hx hr => ⟨_, rfl, ⟨by omega, by omega⟩, fun _ => ⟨rfl, _, hJ1.mf hx⟩, fun z => absurd z q⟩)))⟩
  · have v := hv q
    obtain ⟨A, hA⟩ : ∃ A, A = R.2 := ⟨_, rfl⟩
    rw [← hA] at v ok
    have vD := v.e0
    have n04 : nu 0 4 = D := by rw [e0, hDD]
    have n03 : nu 0 3 = P := by rw [e0, eP]
    rw [n04]
    obtain ⟨a1, a2, a3, a4, a5, a6, a7, a8, a9, a10, a11, a12⟩ := ok
    refine ⟨hD, s_holdsTogether hK hD (by rw [vD]; exact a4) (by rw [vD]; exact a1) (by rw [vD]; exact a6) (by rw [vD]; exact a7) (by rw [vD]; exact a5) ⟨_, rfl, zbin _, fun w => ?_, fun w => ?_⟩⟩
    · rw [vD] at w
      have w : 0 < A 0 3 ∧ A 0 13 < A 0 0 ∧ A 0 14 < A 0 4 := by
        by_cases z : 0 < A 0 3 ∧ A 0 13 < A 0 0 ∧ A 0 14 < A 0 4
        · exact z
        · rw [if_neg z] at w
          exact absurd rfl w
      rw [n04, n03, zup_slot _ (show (3 : Int) ≠ 4 by decide), zup_same]
      refine ce_X6_begin (sg_X6_begin_0 (by omega) hK ⟨by omega, by omega⟩ hD ⟨rfl, ?_⟩)
      refine ce_X1_forget (sg_X1_forget_0 (by omega) hK ⟨rfl, ?_⟩)
      refine ce_X7_forget (sg_X7_forget_0 (by omega) hK ⟨rfl, ?_⟩)
      generalize hN : zup (zup (zup (zup (zcp (zcp (zcp (zup (zup nu 0 3 D) 0 4 P) (D + 6) (22 + 1) 0 0 6) (D + 7) (22 + 2) 0 0 6) (D + 8) (22 + 3) 0 0 6) 22 4 0) 0 7 0) 42 2 (-1)) 46 3 (-1) = N
      have No : ∀ k : Int, k ≠ 0 → k ≠ 22 → k ≠ 23 → k ≠ 24 → k ≠ 25 → k ≠ 42 → k ≠ 46 → N k = nu k := fun k q0 q1 q2 q3 q4 q5 q6 => by
        rw [← hN, zup_row _ q6, zup_row _ q5, zup_row _ q0, zup_row _ q1, zcp_row _ (by omega), zcp_row _ (by omega), zcp_row _ (by omega), zup_row _ q0, zup_row _ q0]
      have N0 : ∀ j : Int, N 0 j = if j = 7 then 0 else if j = 4 then P else if j = 3 then D else nu 0 j := fun j => by
        rw [← hN, zup_cell _ (by decide), zup_cell _ (by decide), zup_app]
        by_cases z7 : j = 7
        · rw [if_pos ⟨rfl, z7⟩, if_pos z7]
        rw [if_neg (fun z => z7 z.2), if_neg z7, zup_cell _ (by decide), zcp_row _ (by decide), zcp_row _ (by decide), zcp_row _ (by decide), zup_app]
        by_cases z4 : j = 4
        · rw [if_pos ⟨rfl, z4⟩, if_pos z4]
        rw [if_neg (fun z => z4 z.2), if_neg z4, zup_app]
        by_cases z3 : j = 3
        · rw [if_pos ⟨rfl, z3⟩, if_pos z3]
        rw [if_neg (fun z => z3 z.2), if_neg z3]
      have nA : ∀ j, 0 ≤ j → j ≤ 8 → ∀ M : Mem, (∀ k : Int, D ≤ k → k ≤ D + 8 → M k = nu k) → M (D + j) = A j := fun j j0 j1 M hM => by rw [hM _ (by omega) (by omega), v j j0 j1]
      have N23 : ∀ i, 0 ≤ i → i < 6 → N 23 i = A 6 i := fun i i0 i1 => by
        rw [← hN, zup_cell _ (by decide), zup_cell _ (by decide), zup_cell _ (by decide), zup_cell _ (by decide), zcp_row _ (by decide), zcp_row _ (by decide), show (23 : Int) = 22 + 1 from rfl, zcp_in _ i0 i1, zup_row _ (by omega), zup_row _ (by omega), v 6 (by omega) (by omega)]
      have N24 : ∀ i, 0 ≤ i → i < 6 → N 24 i = A 7 i := fun i i0 i1 => by
        rw [← hN, zup_cell _ (by decide), zup_cell _ (by decide), zup_cell _ (by decide), zup_cell _ (by decide), zcp_row _ (by decide), show (24 : Int) = 22 + 2 from rfl, zcp_in _ i0 i1, zcp_row _ (by omega), zup_row _ (by omega), zup_row _ (by omega), v 7 (by omega) (by omega)]
      have N25 : ∀ i, 0 ≤ i → i < 6 → N 25 i = A 8 i := fun i i0 i1 => by
        rw [← hN, zup_cell _ (by decide), zup_cell _ (by decide), zup_cell _ (by decide), zup_cell _ (by decide), show (25 : Int) = 22 + 3 from rfl, zcp_in _ i0 i1, zcp_row _ (by omega), zcp_row _ (by omega), zup_row _ (by omega), zup_row _ (by omega), v 8 (by omega) (by omega)]
      have N22 : N 22 4 = 0 := by rw [← hN, zup_cell _ (by decide), zup_cell _ (by decide), zup_cell _ (by decide), zup_same]
      have N42 : N 42 2 = -1 := by rw [← hN, zup_cell _ (by decide), zup_same]
      have N46 : N 46 3 = -1 := by rw [← hN, zup_same]
      have ND : ∀ j, 0 ≤ j → j ≤ 8 → N (D + j) = A j := fun j j0 j1 => nA j j0 j1 N (fun k q1 q2 => No k (by omega) (by omega) (by omega) (by omega) (by omega) (by omega) (by omega))
      have ND0 : N D = A 0 := by
        have := ND 0 (by omega) (by omega)
        rwa [Int.add_zero] at this
      have Nm : ∀ k : Int, 64 ≤ k → N k = mu k := fun k hk => by rw [No k (by omega) (by omega) (by omega) (by omega) (by omega) (by omega) (by omega), e k (by omega)]
      have n3 : N 0 3 = D := by rw [N0, if_neg (by decide), if_neg (by decide), if_pos rfl]
      rw [n3]
      refine ⟨hD, _, ?_, rfl, ?_⟩
      · rw [ND0]
        exact ⟨by omega, by omega⟩
      rw [ND0]
      refine ce_X9_lay (sg_X9_lay_0 (by omega) hK' (md N _ (by rw [Nm 64 (by decide)]) (Nm 65 (by decide)) (fun n2 hz2 hr => ⟨_, rfl, ⟨by omega, by omega⟩, fun z => absurd q z, fun _ => ?_⟩)))
      have r := hr q
      rw [← hA] at r
      obtain ⟨r1, r2, r3, r4, r5, r6, r7, r8, r9, r10, r11, r12⟩ := r
      rw [r1, r4, r5, r6, r7]
      refine ⟨⟨by omega, by omega⟩, fun z => absurd z (by omega), fun _ => ⟨⟨by omega, by omega⟩, ⟨by omega, by omega⟩, fun z => absurd z (by omega), fun _ => ⟨⟨by omega, by omega⟩, ⟨by omega, by omega⟩, fun _ => ?_, fun z => absurd w.2.2 z⟩⟩⟩
      have g67 : (zup n2 66 0 (A 0 0)) 67 1 = A 0 1 := by rw [zup_cell _ (by decide), r2]
      rw [g67]
      have g68 : (zup (zup n2 66 0 (A 0 0)) 67 0 (A 0 1)) 68 1 = A 0 2 := by rw [zup_cell _ (by decide), zup_cell _ (by decide), r3]
      rw [g68]
      have g70 : (zup (zup (zup n2 66 0 (A 0 0)) 67 0 (A 0 1)) 68 0 (A 0 2)) 70 1 = A 0 3 := by rw [zup_cell _ (by decide), zup_cell _ (by decide), zup_cell _ (by decide), r4]
      rw [g70]
      have g74 : (zup (zup (zup (zup n2 66 0 (A 0 0)) 67 0 (A 0 1)) 68 0 (A 0 2)) 70 0 (A 0 3)) 74 1 = A 0 4 := by rw [zup_cell _ (by decide), zup_cell _ (by decide), zup_cell _ (by decide), zup_cell _ (by decide), r5]
      rw [g74]
      generalize hY : zup (zup (zup (zup (zup n2 66 0 (A 0 0)) 67 0 (A 0 1)) 68 0 (A 0 2)) 70 0 (A 0 3)) 74 0 (A 0 4) = Y
      have Yo : ∀ k : Int, k ≠ 66 → k ≠ 67 → k ≠ 68 → k ≠ 70 → k ≠ 74 → Y k = n2 k := fun k q1 q2 q3 q4 q5 => by rw [← hY, zup_row _ q5, zup_row _ q4, zup_row _ q3, zup_row _ q2, zup_row _ q1]
      have Y66 : Y 66 0 = A 0 0 := by
        rw [← hY]
        simp only [zup_app, Int.reduceEq, false_and, true_and, and_self, if_false, if_true, reduceIte]
      have Y67 : Y 67 0 = A 0 1 := by
        rw [← hY]
        simp only [zup_app, Int.reduceEq, false_and, true_and, and_self, if_false, if_true, reduceIte]
      have Y68 : Y 68 0 = A 0 2 := by
        rw [← hY]
        simp only [zup_app, Int.reduceEq, false_and, true_and, and_self, if_false, if_true, reduceIte]
      have Y70 : Y 70 0 = A 0 3 := by
        rw [← hY]
        simp only [zup_app, Int.reduceEq, false_and, true_and, and_self, if_false, if_true, reduceIte]
      have Y74 : Y 74 0 = A 0 4 := by
        rw [← hY]
        simp only [zup_app, Int.reduceEq, false_and, true_and, and_self, if_false, if_true, reduceIte]
      refine m_lay109 (by omega) hK' (fun X zX X64 X16 X78 X6 X10 X42 X18 => ⟨by rw [Y70], D, ?_⟩)
      have Xo : ∀ k : Int, k < 64 → X k = N k := fun k hk => by
        rw [zX k (by simp only [List.mem_cons, List.not_mem_nil, or_false]; omega), Yo k (by omega) (by omega) (by omega) (by omega) (by omega), hz2.1 k (by omega) (by omega) (by omega)]
      have XD : ∀ j, 0 ≤ j → j ≤ 8 → X (D + j) = A j := fun j j0 j1 => by rw [Xo _ (by omega), ND j j0 j1]
      have XD0 : X D = A 0 := by
        have := XD 0 (by omega) (by omega)
        rwa [Int.add_zero] at this
      have X0 := Xo 0 (by decide)
      refine ⟨⟨by rw [X0, n3], ?_⟩, ?_, ?_, ?_, ?_, Or.inl (by rw [Xo 42 (by decide), N42]), Or.inl (by rw [Xo 46 (by decide), N46])⟩
      · rw [X0, N0, if_neg (by decide), if_pos rfl]
        omega
      · unfold jPl
        rw [XD0, XD 1 (by omega) (by omega), XD 2 (by omega) (by omega), XD 3 (by omega) (by omega), XD 4 (by omega) (by omega), XD 5 (by omega) (by omega), zX 66 (by decide), zX 67 (by decide), zX 68 (by decide), zX 70 (by decide), zX 74 (by decide), Y66, Y67, Y68, Y70, Y74]
        refine ⟨⟨rfl, a1⟩, ⟨rfl, a2⟩, ⟨rfl, a3⟩, ⟨rfl, by omega, by omega⟩, ⟨rfl, a5⟩, fun i i0 i1 => ?_, fun i i0 i1 => ?_, fun i i0 i1 => ?_, fun i i0 i1 => ?_, fun i i0 i1 => ?_⟩
        · rw [(X6 i i0 (by omega)).1, Yo 69 (by decide) (by decide) (by decide) (by decide) (by decide), r8 i i0 i1]
          have := a8 i i0 i1
          exact ⟨rfl, by omega, by omega⟩
        · rw [X10 i i0 (by omega), Yo 71 (by decide) (by decide) (by decide) (by decide) (by decide), r9 i i0 i1]
          have := a9 i i0 i1
          exact ⟨rfl, by omega, by omega⟩
        · rw [X42 i i0 i1, Yo 72 (by decide) (by decide) (by decide) (by decide) (by decide), r10 i i0 i1]
          exact ⟨rfl, a10 i i0 i1⟩
        · rw [(X6 i i0 i1).2.1, Yo 73 (by decide) (by decide) (by decide) (by decide) (by decide), r11 i i0 i1]
          exact ⟨rfl, a11 i i0 i1⟩
        · rw [(X6 i i0 (by omega)).2.2, Yo 75 (by decide) (by decide) (by decide) (by decide) (by decide), (r12 i i0 i1).1]
          have := (a12 i i0 i1).1
          exact ⟨rfl, by omega, by omega⟩
      · rw [XD0]
        have sg : ∀ x, zs6 (A 0 13) x → zsg (A 0 0) x := fun x hx => by
          unfold zs6 at hx
          unfold zsg
          omega
        refine ⟨fun p p0 p1 => ?_, ?_, fun i i0 i1 => ?_⟩
        · obtain ⟨-, s6, s7, s8⟩ := r12 p p0 p1
          obtain ⟨-, t6, t7, t8⟩ := a12 p p0 p1
          have Y76 := Yo 76 (by decide) (by decide) (by decide) (by decide) (by decide)
          rw [show 18 * (0 : Int) + 3 * p = 3 * p by omega, X18 (3 * p) (by omega) (by omega), X18 (3 * p + 1) (by omega) (by omega), X18 (3 * p + 2) (by omega) (by omega), Y76, show 18 + (3 * p + 1) = 18 + 3 * p + 1 by omega, show 18 + (3 * p + 2) = 18 + 3 * p + 2 by omega, s6, s7, s8, show (22 : Int) + 1 = 23 from rfl, show (22 : Int) + 2 = 24 from rfl, show (22 : Int) + 3 = 25 from rfl, Xo 23 (by decide), Xo 24 (by decide), Xo 25 (by decide), N23 p p0 (by omega), N24 p p0 (by omega), N25 p p0 (by omega)]
          exact ⟨⟨rfl, sg _ t6⟩, ⟨rfl, sg _ t7⟩, rfl, sg _ t8⟩
        · rw [Xo 22 (by decide), N22, X78]
          exact ⟨rfl, by omega, by omega⟩
        · rw [Xo 22 (by decide), N22] at i1
          exact absurd i1 (by omega)
      · have X01 : X 0 1 = mu 0 1 := by rw [X0, N0, if_neg (by decide), if_neg (by decide), if_neg (by decide), e0]
        have X65 : X 65 = mu 65 := by rw [zX 65 (by decide), Yo 65 (by decide) (by decide) (by decide) (by decide) (by decide), hz2.1 65 (by decide) (by decide) (by decide), Nm 65 (by decide)]
        have X1 : X 1 = mu 1 := by rw [Xo 1 (by decide), No 1 (by decide) (by decide) (by decide) (by decide) (by decide) (by decide) (by decide), e 1 (by decide)]
        have X640 : X 64 0 = mu 64 0 := by rw [X64 0 (by decide), Yo 64 (by decide) (by decide) (by decide) (by decide) (by decide), hz2.2.1 0 (by decide) (by decide) (by decide), Nm 64 (by decide)]
        unfold jTx
        rw [X01, X65, X1, X640]
        exact ⟨⟨x1, x2, x3⟩, x4⟩
      · have X07 : X 0 7 = 0 := by rw [X0, N0, if_pos rfl]
        unfold jKp
        rw [X07, X16]
        exact ⟨⟨rfl, by omega, by omega⟩, fun z => absurd z (by omega), fun z => absurd z (by omega)⟩
    · rw [vD] at w
      have w : ¬ (0 < A 0 3 ∧ A 0 13 < A 0 0 ∧ A 0 14 < A 0 4) := fun z => by
        rw [if_pos z] at w
        exact absurd w (by decide)
      refine ⟨_, ⟨by omega, by omega⟩, rfl, ce_X9_lay (sg_X9_lay_0 (by omega) hK' (md nu _ (by rw [e 64 (by decide)]) (e 65 (by decide)) (fun xi hx hr => ⟨_, rfl, ⟨by omega, by omega⟩, fun z => absurd q z, fun _ => ?_⟩)))⟩
      have r := hr q
      rw [← hA] at r
      obtain ⟨r1, r2, r3, r4, r5, r6, r7, r8, r9, r10, r11, r12⟩ := r
      rw [r1, r4, r5, r6, r7]
      exact ⟨⟨by omega, by omega⟩, fun z => ⟨rfl, _, hJ1.mf hx⟩, fun z => ⟨⟨by omega, by omega⟩, ⟨by omega, by omega⟩, fun z2 => ⟨rfl, _, hJ1.mf hx⟩, fun z2 => ⟨⟨by omega, by omega⟩, ⟨by omega, by omega⟩, fun z3 => absurd ⟨by omega, by omega, z3⟩ w, fun z3 => ⟨rfl, _, hJ1.mf hx⟩⟩⟩⟩
