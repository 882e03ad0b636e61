/-! the queue as it comes: given, have, other -/
def zPO (mu : Mem) (P : Int) : Prop := (2 ≤ mu P 0 ∧ mu P 0 ≤ 6) ∧ (0 ≤ mu P 1 ∧ mu P 1 ≤ 3) ∧ (0 ≤ mu P 2 ∧ mu P 2 ≤ 6) ∧ (1 ≤ mu P 3 ∧ mu P 3 ≤ 10) ∧ (∀ i, 0 ≤ i → i < mu P 2 → 0 ≤ mu (P + 1) i ∧ mu (P + 1) i < mu P 0) ∧ (∀ i, 0 ≤ i → i < mu P 3 → 0 ≤ mu (P + 2) i ∧ mu (P + 2) i < mu P 0) ∧ ∀ i, 0 ≤ i → i < 42 → 0 ≤ mu (P + 3) i ∧ mu (P + 3) i ≤ 9
def zMO (mu : Mem) : Prop := (2 ≤ mu 66 0 ∧ mu 66 0 ≤ 6) ∧ (0 ≤ mu 67 0 ∧ mu 67 0 ≤ 3) ∧ (0 ≤ mu 68 0 ∧ mu 68 0 ≤ 6) ∧ (1 ≤ mu 70 0 ∧ mu 70 0 ≤ 10) ∧ (∀ i, 0 ≤ i → i < mu 68 0 → 0 ≤ mu 69 i ∧ mu 69 i < mu 66 0) ∧ (∀ i, 0 ≤ i → i < mu 70 0 → 0 ≤ mu 71 i ∧ mu 71 i < mu 66 0) ∧ ∀ i, 0 ≤ i → i < 42 → 0 ≤ mu 72 i ∧ mu 72 i ≤ 9
theorem jPl.po {mu : Mem} {P : Int} (h : jPl mu P) : zPO mu P := by
  obtain ⟨⟨t1, t2, t3⟩, ⟨k1, k2, k3⟩, ⟨b1, b2, b3⟩, ⟨n1, n2, n3⟩, -, ha, hw, hv, -⟩ := h
  exact ⟨⟨t2, t3⟩, ⟨k2, k3⟩, ⟨b2, b3⟩, ⟨n2, n3⟩, fun i i0 i1 => by rw [(ha i i0 i1).1]; exact (ha i i0 i1).2, fun i i0 i1 => by rw [(hw i i0 i1).1]; exact (hw i i0 i1).2, fun i i0 i1 => by rw [(hv i i0 i1).1]; exact (hv i i0 i1).2⟩
theorem jPl.mo {mu : Mem} {P : Int} (h : jPl mu P) : zMO mu := by
  obtain ⟨⟨t1, t2, t3⟩, ⟨k1, k2, k3⟩, ⟨b1, b2, b3⟩, ⟨n1, n2, n3⟩, -, ha, hw, hv, -⟩ := h
  unfold zMO
  rw [← t1, ← k1, ← b1, ← n1]
  exact ⟨⟨t2, t3⟩, ⟨k2, k3⟩, ⟨b2, b3⟩, ⟨n2, n3⟩, fun i i0 i1 => (ha i i0 i1).2, fun i i0 i1 => (hw i i0 i1).2, fun i i0 i1 => (hv i i0 i1).2⟩
def zrow (mu : Mem) (P : Int) : Int → Int := fun j => if j < mu P 2 then mu (P + 1) j else mu (P + 2) (j - mu P 2)
def zmrow (mu : Mem) : Int → Int := fun j => if j < mu 68 0 then mu 69 j else mu 71 (j - mu 68 0)
theorem zrow_bd {mu : Mem} {P : Int} (h : zPO mu P) : ∀ j, 0 ≤ j → j < mu P 2 + mu P 3 → 0 ≤ zrow mu P j ∧ zrow mu P j < 6 := by
  intro j j0 j1
  obtain ⟨ht, -, hb, hn, ha, hw, -⟩ := h
  unfold zrow
  split
  · have := ha j j0 (by omega); omega
  · have := hw (j - mu P 2) (by omega) (by omega); omega
theorem zmrow_bd {mu : Mem} (h : zMO mu) : ∀ j, 0 ≤ j → j < mu 68 0 + mu 70 0 → 0 ≤ zmrow mu j ∧ zmrow mu j < 6 := by
  intro j j0 j1
  obtain ⟨ht, -, hb, hn, ha, hw, -⟩ := h
  unfold zmrow
  split
  · have := ha j j0 (by omega); omega
  · have := hw (j - mu 68 0) (by omega) (by omega); omega
theorem jPl.row {mu : Mem} {P : Int} (h : jPl mu P) : ∀ j, 0 ≤ j → j < mu P 2 + mu P 3 → zrow mu P j = zmrow mu j := by
  intro j j0 j1
  obtain ⟨-, -, ⟨b1, b2, b3⟩, ⟨n1, n2, n3⟩, -, ha, hw, -⟩ := h
  unfold zrow zmrow
  rw [← b1]
  split
  · exact (ha j j0 (by omega)).1
  · exact (hw (j - mu P 2) (by omega) (by omega)).1
theorem zgf_bd {kind : Int} {row : Int → Int} {many : Int} (h : ∀ j, 0 ≤ j → j < many → 0 ≤ row j ∧ row j < 6) : 0 ≤ zgf kind row many ∧ zgf kind row many ≤ 6 := by
  unfold zgf
  split
  · split
    · omega
    · have := h (many - 2) (by omega) (by omega); omega
  · exact zmo_bd _ _ _ _
theorem zsm'.wk {X Y : List Int} {mu nu : Mem} (h : zsm' X mu nu) (hs : ∀ k ∈ X, k ∈ Y) : zsm' Y mu nu := ⟨fun k hk => h.1 k (fun q => hk (hs k q)), h.2⟩
theorem zsm'.rf {X : List Int} {mu : Mem} : zsm' X mu mu := ⟨fun _ _ _ => rfl, rfl, rfl⟩
theorem zMO.c {mu nu : Mem} (h : zMO mu) (hs : zsm' [81] mu nu) : zMO nu := by
  unfold zMO at h ⊢
  rw [hs.1 66 (by decide) (by decide), hs.1 67 (by decide) (by decide), hs.1 68 (by decide) (by decide), hs.1 69 (by decide) (by decide), hs.1 70 (by decide) (by decide), hs.1 71 (by decide) (by decide), hs.1 72 (by decide) (by decide)]
  exact h
theorem zmrow_c {mu nu : Mem} (hs : zsm' [81] mu nu) : zmrow nu = zmrow mu := by
  funext j
  unfold zmrow
  rw [hs.1 68 (by decide) (by decide), hs.1 69 (by decide) (by decide), hs.1 71 (by decide) (by decide)]
section S49
variable {K d : Nat} {mu : Mem} {Q : AV → Mem → Prop}
theorem s_comeAsWished {P k : Int} (hd : 2 ≤ d) (hK : 64 ≤ K) (hP : isP K P) (ho : zPO mu P) (hk : 0 ≤ k ∧ k ≤ 3)
    (h : ∀ nu, zsm [39, 40, 41] mu nu → (∀ i, 0 ≤ i → i < mu P 3 → nu 39 i = mu (P + 2) i ∧ nu 40 i = zgf k (zrow mu P) (mu P 2 + i + 1)) → (∀ j, 0 ≤ j → j < mu P 2 + mu P 3 → nu 41 j = zrow mu P j) → Q zV nu) : zC K d mX3_comeAsWished [zR 38, zR P, zI k] mu Q := by
  have hP2 := hP.2
  have hrb := zrow_bd ho
  obtain ⟨ht, -, hb, hn, ha, hw, -⟩ := ho
  have l : ∀ (n : Nat) (i : Int) (nu : Mem), 0 ≤ i → i + n = mu P 3 → zsm [39, 40, 41] mu nu → (∀ q, 0 ≤ q → q < i → nu 39 q = mu (P + 2) q ∧ nu 40 q = zgf k (zrow mu P) (mu P 2 + q + 1)) → (∀ j, 0 ≤ j → j < mu P 2 + i → nu 41 j = zrow mu P j) → zG K d mX3_comeAsWished 7 [zR 38, zR P, zI k, zI i, zU] [] nu Q := by
    intro n
    induction n with
    | zero =>
      intro i nu i0 i1 hz h1 h2
      have e : i = mu P 3 := by omega
      subst e
      have eP : nu P = mu P := hz P (by simp only [List.mem_cons, List.not_mem_nil, or_false]; omega)
      exact sg_X3_comeAsWished_7 hd hK hP ⟨⟨by omega, by omega⟩, ⟨by rw [eP]; omega, by rw [eP]; omega⟩, fun _ => h nu hz h1 h2, fun w => absurd (by rw [eP]; omega) w⟩
    | succ n ih =>
      intro i nu i0 i1 hz h1 h2
      have eP : nu P = mu P := hz P (by simp only [List.mem_cons, List.not_mem_nil, or_false]; omega)
      have e2 : nu (P + 2) = mu (P + 2) := hz _ (by simp only [List.mem_cons, List.not_mem_nil, or_false]; omega)
      have er : zrow mu P (mu P 2 + i) = mu (P + 2) i := by
        unfold zrow
        rw [if_neg (by omega), show mu P 2 + i - mu P 2 = i by omega]
      refine sg_X3_comeAsWished_7 hd hK hP ⟨⟨by omega, by omega⟩, ⟨by rw [eP]; omega, by rw [eP]; omega⟩, fun w => absurd w (by rw [eP]; omega), fun _ => ⟨i0, by omega, by rw [eP]; omega, by rw [eP]; omega, ?_⟩⟩
      rw [zup_same, eP, e2]
      have h41 : ∀ j, 0 ≤ j → j < mu P 2 + i + 1 → (zup (zup nu 39 i (mu (P + 2) i)) 41 (mu P 2 + i) (mu (P + 2) i)) 41 j = zrow mu P j := fun j j0 j1 => by
        by_cases hj : j = mu P 2 + i
        · rw [hj, zup_same, er]
        · rw [zup_slot _ hj, zup_cell _ (by decide)]
          exact h2 j j0 (by omega)
      refine s_givesFor (n := 16) (by omega) hK (r41 hK) hk (by omega) (fun j j0 j1 => by
        rw [h41 j j0 j1]
        have := hrb j j0 (by omega)
        exact ⟨by omega, by omega⟩) ⟨_, rfl, ?_⟩
      rw [zgf_congr (fun j j0 j1 => h41 j j0 j1)]
      refine ih (i + 1) _ (by omega) (by omega) (((hz.up (by simp)).up (by simp)).up (by simp)) (fun q q0 q1 => ?_) (fun j j0 j1 => ?_)
      · by_cases hq : q = i
        · rw [hq, zup_same, zup_cell _ (by decide), zup_cell _ (by decide), zup_same]
          exact ⟨rfl, rfl⟩
        · have w := h1 q q0 (by omega)
          refine ⟨?_, ?_⟩
          · rw [zup_cell _ (by decide), zup_cell _ (by decide), zup_slot _ hq]
            exact w.1
          · rw [zup_slot _ hq, zup_cell _ (by decide), zup_cell _ (by decide)]
            exact w.2
      · rw [zup_cell _ (by decide)]
        exact h41 j j0 (by omega)
  refine ce_X3_comeAsWished (sg_X3_comeAsWished_0 hd hK hP (ce_X3_startRow (sg_X3_startRow_0 (by omega) hK hP ⟨rfl, ?_⟩)))
  refine l (mu P 3).toNat 0 _ (by omega) (by omega) (zsm.cp zsm.rf (by simp)) (fun q q0 q1 => absurd q1 (by omega)) (fun j j0 j1 => ?_)
  rw [zcp_in _ j0 (by omega)]
  unfold zrow
  rw [if_pos (by omega)]
theorem m_beginRow (hK : 93 ≤ K) (ho : 0 ≤ mu 68 0 ∧ mu 68 0 ≤ 6) (h : ∀ nu, zsm' [81] mu nu → nu 64 22 = mu 68 0 → (∀ j, 0 ≤ j → j < mu 68 0 → nu 81 j = mu 69 j) → Q zV nu) : zC K d mX9_beginRow [zR 64] mu Q := by
  have l : ∀ (n : Nat) (i : Int) (nu : Mem), 0 ≤ i → i + n = mu 68 0 → zsm' [81] mu nu → nu 64 22 = mu 68 0 → (∀ j, 0 ≤ j → j < i → nu 81 j = mu 69 j) → zG K d mX9_beginRow 12 [zR 64, zI i] [] nu Q := by
    intro n
    induction n with
    | zero =>
      intro i nu i0 i1 hz h22 h1
      have e : i = mu 68 0 := by omega
      subst e
      exact sg_X9_beginRow_12 (by omega) hK ⟨⟨by omega, by omega⟩, ⟨by omega, by omega⟩, fun _ => h nu hz h22 h1, fun w => absurd (by omega) w⟩
    | succ n ih =>
      intro i nu i0 i1 hz h22 h1
      refine sg_X9_beginRow_12 (by omega) hK ⟨⟨by omega, by omega⟩, ⟨by omega, by omega⟩, fun w => absurd w (by omega), fun _ => ⟨i0, by omega, by omega, ih (i + 1) _ (by omega) (by omega) (hz.up (by simp) (by decide)) (by rw [zup_cell _ (by decide)]; exact h22) (fun j j0 j1 => ?_)⟩⟩
      by_cases hj : j = i
      · rw [hj, zup_same, hz.1 69 (by decide) (by decide)]
      · rw [zup_slot _ hj]
        exact h1 j j0 (by omega)
  refine ce_X9_beginRow (sg_X9_beginRow_0 (by omega) hK ?_)
  exact l (mu 68 0).toNat 0 _ (by omega) (by omega) (zsm'.rf.up64 (by decide) (by decide)) (by rw [zup_same]) (fun j j0 j1 => absurd j1 (by omega))
theorem m_askNow {x : Int} (hK : 93 ≤ K) (hm : 0 ≤ mu 64 22 ∧ mu 64 22 < 16) (h : Q zV (zup (zup mu 81 (mu 64 22) x) 64 22 (mu 64 22 + 1))) : zC K d mX9_askNow [zR 64, zI x] mu Q := by
  refine ce_X9_askNow (sg_X9_askNow_0 (by omega) hK ⟨hm.1, hm.2, ?_⟩)
  rw [zup_cell (a := 64) _ (by decide)]
  exact h
theorem m_givenBy {k i : Int} (hd : 2 ≤ d) (hK : 93 ≤ K) (ho : zMO mu) (hk : 0 ≤ k ∧ k ≤ 3) (hi : 0 ≤ i ∧ i < mu 70 0) (h : ∀ nu, zsm' [81] mu nu → Q (zI (zgf k (zmrow mu) (mu 68 0 + i + 1))) nu) : zC K d mX9_givenBy [zR 64, zI k, zI i] mu Q := by
  have hrb := zmrow_bd ho
  obtain ⟨ht, -, hb, hn, ha, hw, -⟩ := ho
  have l : ∀ (n : Nat) (q : Int) (nu : Mem), 0 ≤ q → q + n = i + 1 → zsm' [81] mu nu → nu 64 22 = mu 68 0 + q → (∀ j, 0 ≤ j → j < mu 68 0 + q → nu 81 j = zmrow mu j) → zG K d mX9_givenBy 6 [zR 64, zI k, zI i, zI q] [] nu Q := by
    intro n
    induction n with
    | zero =>
      intro q nu q0 q1 hz h22 h1
      have e : q = i + 1 := by omega
      subst e
      refine sg_X9_givenBy_6 hd hK ⟨⟨by omega, by omega⟩, ⟨by omega, by omega⟩, fun _ => ?_, fun w => absurd (by omega) w⟩
      refine s_gives (by omega) hK (by omega) hk (fun j j0 j1 => by
        rw [h1 j j0 (by omega)]
        have := hrb j j0 (by omega)
        exact ⟨by omega, by omega⟩) ⟨_, rfl, ?_⟩
      rw [h22, zgf_congr (fun j j0 j1 => h1 j j0 (by omega)), show mu 68 0 + (i + 1) = mu 68 0 + i + 1 by omega]
      exact h nu hz
    | succ n ih =>
      intro q nu q0 q1 hz h22 h1
      refine sg_X9_givenBy_6 hd hK ⟨⟨by omega, by omega⟩, ⟨by omega, by omega⟩, fun w => absurd w (by omega), fun _ => ⟨q0, by omega, m_askNow hK (by omega) ⟨rfl, ?_⟩⟩⟩
      rw [h22, hz.1 71 (by decide) (by decide)]
      refine ih (q + 1) _ (by omega) (by omega) ((hz.up (by simp) (by decide)).up64 (by decide) (by decide)) (by rw [zup_same]; omega) (fun j j0 j1 => ?_)
      rw [zup_cell _ (by decide)]
      by_cases hj : j = mu 68 0 + q
      · rw [hj, zup_same]
        unfold zmrow
        rw [if_neg (by omega), show mu 68 0 + q - mu 68 0 = q by omega]
      · rw [zup_slot _ hj]
        exact h1 j j0 (by omega)
  refine ce_X9_givenBy (sg_X9_givenBy_0 hd hK (m_beginRow hK (by omega) (fun nu hz h22 h1 => ⟨rfl, ?_⟩)))
  refine l (i + 1).toNat 0 nu (by omega) (by omega) hz (by omega) (fun j j0 j1 => ?_)
  unfold zmrow
  rw [if_pos (by omega)]
  exact h1 j j0 (by omega)
end S49
theorem zsm.J {X : List Int} {mu nu : Mem} (h : zsm X mu nu) (hX : ∀ k ∈ X, k ∈ zXs ++ zMs) : zsm' (zXs ++ zMs) mu nu := ⟨fun k hk _ => h k (fun q => hk (hX k q)), by rw [h 64 (fun q => by have := hX 64 q; revert this; decide)], by rw [h 64 (fun q => by have := hX 64 q; revert this; decide)]⟩
theorem zsm'.J {X : List Int} {mu nu : Mem} (h : zsm' X mu nu) (hX : ∀ k ∈ X, k ∈ zXs ++ zMs) : zsm' (zXs ++ zMs) mu nu := h.wk hX
theorem op_given (a1 : Int) (ha : zin a1) : zOp 3 3 mX8_given mX9_given [zI a1] := by
  intro mu P hJ
  have hK : 64 ≤ 93 := by decide
  have hK' : 93 ≤ 93 := by decide
  have hJ0 := hJ
  obtain ⟨h1, h2, -⟩ := hJ
  have hPi := h1.isP hK
  obtain ⟨rfl, -⟩ := h1
  have hpo := h2.po
  have hmo := h2.mo
  have hrow := h2.row
  obtain ⟨-, ⟨k1, k2, k3⟩, ⟨b1, b2, b3⟩, ⟨n1, n2, n3⟩, -⟩ := h2
  refine ce_X8_given (sg_X8_given_0 (by omega) hK (s_isQueued (by omega) hK hPi ha ⟨n2, n3⟩ ⟨_, rfl, zbin _, fun c => ⟨hPi, ?_⟩, fun c => ?_⟩))
  · have ci : 0 ≤ a1 ∧ a1 < mu (mu 0 3) 3 := by split at c <;> omega
    refine s_comeAsWished (by omega) hK hPi hpo ⟨k2, k3⟩ (fun nu hz w1 w2 => ⟨rfl, ci.1, by omega, ?_⟩)
    rw [(w1 a1 ci.1 ci.2).2]
    have bd := zgf_bd (kind := mu (mu 0 3) 1) (row := zrow mu (mu 0 3)) (many := mu (mu 0 3) 2 + a1 + 1) (fun j j0 j1 => zrow_bd hpo j j0 (by omega))
    refine ⟨_, ⟨by omega, by omega⟩, rfl, ?_⟩
    have hJ1 := hJ0.same (hz.J (by decide))
    have e : ∀ k : Int, k ≠ 39 → k ≠ 40 → k ≠ 41 → nu k = mu k := fun k q1 q2 q3 => hz k (by simp only [List.mem_cons, List.not_mem_nil, or_false]; omega)
    have e67 : nu 67 = mu 67 := e 67 (by decide) (by decide) (by decide)
    have e68 : nu 68 = mu 68 := e 68 (by decide) (by decide) (by decide)
    have e70 : nu 70 = mu 70 := e 70 (by decide) (by decide) (by decide)
    refine ce_X9_given (sg_X9_given_0 (by omega) hK' (m_isWish (by omega) hK' ha (by rw [e70]; omega) ⟨_, rfl, zbin _, fun c2 => ?_, fun c2 => ?_⟩))
    · exfalso
      rw [e70] at c2
      split at c2 <;> omega
    · refine m_givenBy (by omega) hK' hJ1.2.1.mo (by rw [e67]; omega) (by rw [e70]; omega) (fun xi hx => ⟨_, rfl, ?_, _, hJ1.same (hx.J (by decide))⟩)
      have er : zmrow nu = zmrow mu := by
        funext j
        unfold zmrow
        rw [e68, e 69 (by decide) (by decide) (by decide), e 71 (by decide) (by decide) (by decide)]
      rw [e67, e68, er, ← k1, ← b1, zgf_congr (fun j j0 j1 => (hrow j j0 (by omega)).symm)]
  · refine ⟨_, ⟨by omega, by omega⟩, rfl, ?_⟩
    refine ce_X9_given (sg_X9_given_0 (by omega) hK' (m_isWish (by omega) hK' ha (by omega) ⟨_, rfl, zbin _, fun c2 => ⟨rfl, _, hJ0⟩, fun c2 => ?_⟩))
    exfalso
    rw [← n1] at c2
    exact c2 c
